-- THE CLASS'S LAWS
def HB (s : iv_M) (qh : Nat) (B : iv_M) : Prop := s qh 1 = B 114 4 ∧ s qh 2 = B 114 3 ∧ (∀ r, 0 ≤ r → r < B 114 2 → s qh 3 / 2 ^ r.toNat % 2 = B 118 r) ∧ s qh 4 = B 114 5 ∧ (∀ p, 0 ≤ p → p < B 114 3 → s (qh + 9) p = B 120 p)
def cnt (B : iv_M) (ru : Option (List (List (Int × Int)))) : Prop := B 114 5 ≠ 0 ∨ ru ≠ none
def RuS (s : iv_M) (ql : Nat) (ru : Option (List (List (Int × Int)))) : Prop := (ru = none ∧ s ql 2 = -1) ∨ ∃ f R, 0 ≤ f ∧ f < 6 ∧ ru = some R ∧ s ql 2 = 3 + f ∧ RUL s f R
def LR (s : iv_M) (ql qh qf : Nat) (B : iv_M) (ru : Option (List (List (Int × Int)))) : Prop :=
  s ql 0 = qh ∧ s ql 1 = qf ∧ HB s qh B ∧ RuS s ql ru ∧ (s ql 3 = 0 ∨ s ql 3 = 1) ∧ (s ql 3 = 1 ↔ cnt B ru) ∧ s ql 4 = B 114 6 ∧ (cnt B ru → s ql 5 = mm B)
def Sp (ql qh qf : Nat) : Prop := 8 < qf ∧ 8 < ql ∧ 8 < qh ∧ (ql + 1 < qf ∨ qf + 6 < ql) ∧ (qh < qf ∨ qf + 6 < qh) ∧ (qh + 9 < qf ∨ qf + 6 < qh + 9) ∧ qh ≠ ql ∧ qh ≠ ql + 1 ∧ qh + 9 ≠ ql ∧ qh + 9 ≠ ql + 1 ∧ qf + 6 < 113 ∧ ql + 1 < 113 ∨ (8 < qf ∧ 8 < ql ∧ 8 < qh ∧ (ql + 1 < qf ∨ qf + 6 < ql) ∧ (qh < qf ∨ qf + 6 < qh) ∧ (qh + 9 < qf ∨ qf + 6 < qh + 9) ∧ qh ≠ ql ∧ qh ≠ ql + 1 ∧ qh + 9 ≠ ql ∧ qh + 9 ≠ ql + 1 ∧ 173 < qf ∧ ql + 1 < 113)
theorem Sp_f {ql qh qf : Nat} (h : Sp ql qh qf) : 8 < qf ∧ 8 < ql ∧ 8 < qh ∧ qh ≠ ql ∧ qh ≠ ql + 1 ∧ qh + 9 ≠ ql ∧ qh + 9 ≠ ql + 1 := by unfold Sp at h; omega
theorem Sp_l {ql qh qf : Nat} (h : Sp ql qh qf) : ql + 1 < qf ∨ qf + 6 < ql := by unfold Sp at h; omega
theorem Sp_q {ql qh qf a : Nat} (h : Sp ql qh qf) (h0 : qf ≤ a) (h1 : a ≤ qf + 6) : a ≠ ql ∧ a ≠ ql + 1 := by unfold Sp at h; omega
theorem FRc_ext {s s' B : iv_M} {q : Nat} (h : ∀ a, q ≤ a → a ≤ q + 6 → s' a = s a) (hF : FRc s q B) : FRc s' q B := by
  obtain ⟨f0, f1, f2, f3, f4, f5, f6, f7⟩ := hF
  refine ⟨by rw [h q (by omega) (by omega)]; exact f0, by rw [h q (by omega) (by omega)]; exact f1, by rw [h q (by omega) (by omega)]; exact f2, ?_, ?_, ?_, ?_, ?_⟩
  · rw [h (q + 3) (by omega) (by omega)]; exact f3
  · rw [h (q + 5) (by omega) (by omega)]; exact f4
  · rw [h (q + 6) (by omega) (by omega)]; exact f5
  · rw [h (q + 4) (by omega) (by omega)]; exact f6
  · rw [h (q + 1) (by omega) (by omega), h (q + 2) (by omega) (by omega)]; exact f7
theorem FP_ext {s s' B : iv_M} {q : Nat} (h : s' q = s q) (hF : FP s q B) : FP s' q B := by unfold FP at hF ⊢; rw [h]; exact hF
theorem HB_ext {s s' B : iv_M} {q : Nat} (h : s' q = s q) (h9 : s' (q + 9) = s (q + 9)) (hF : HB s q B) : HB s' q B := by unfold HB at hF ⊢; rw [h, h9]; exact hF
theorem LR_ext {s s' B : iv_M} {ql qh qf : Nat} {ru : Option (List (List (Int × Int)))} (h : ∀ i, i ≠ 6 → s' ql i = s ql i) (h1 : s' qh = s qh) (h9 : s' (qh + 9) = s (qh + 9)) (hr : ∀ a, (140 ≤ a ∧ a ≤ 144) ∨ (3 ≤ a ∧ a ≤ 8) → s' a = s a) (hL : LR s ql qh qf B ru) : LR s' ql qh qf B ru := by
  obtain ⟨l0, l1, l2, l3, l4, l5, l6, l7⟩ := hL
  refine ⟨by rw [h 0 (by omega)]; exact l0, by rw [h 1 (by omega)]; exact l1, HB_ext h1 h9 l2, ?_, by rw [h 3 (by omega)]; exact l4, by rw [h 3 (by omega)]; exact l5, by rw [h 4 (by omega)]; exact l6, by rw [h 5 (by omega)]; exact l7⟩
  rcases l3 with ⟨z1, z2⟩ | ⟨f, R, z1, z2, z3, z4, z5⟩
  · left; exact ⟨z1, by rw [h 2 (by omega)]; exact z2⟩
  · right; exact ⟨f, R, z1, z2, z3, by rw [h 2 (by omega)]; exact z4, RUL_ext (hr 140 (by omega)) (hr 141 (by omega)) (hr 142 (by omega)) (hr 143 (by omega)) (hr 144 (by omega)) (hr _ (by omega)) z5⟩
theorem FX3_goal_ok {N ql qf : Nat} {s B : iv_M} {k r o : Int} (hT : (sh (qf + 1)).2 = 12) (hl : s ql 1 = qf) (hW : Wf B) (hF : FRc s qf B) (h : isW B k r o) : FX3_goal N s ql k r o = some (gol B k r o) := by
  have hr2 := hW.1.2.2.2.2.2.1
  obtain ⟨r0, r1, hk⟩ := h
  obtain ⟨g1, g2, g3, g4, g5, g6, g7⟩ := hW.room r0 r1
  obtain ⟨e1, e2⟩ := hF.cell hW r0 r1
  have hn : (s ql 1).toNat = qf := by rw [hl]; rfl
  unfold FX3_goal gol FX3_goal_b44
  rw [hn, hT]
  rcases hk with ⟨rfl, o0, o1⟩ | ⟨rfl, o0, o1, hro⟩ | ⟨rfl, rfl⟩
  · rw [if_pos rfl, if_neg (by omega), if_neg (by omega), rd_ok r0 (by omega), Option.bind_some, e1, w32_id (x := 4 * _) (by omega) (by omega), w32_id (by omega) (by omega), rd_ok (by omega) (by omega), Option.bind_some, hF.2.2.2.2.2.1 _ _ g1 g2 o0 o1, if_pos rfl]
  · obtain ⟨e3, e4⟩ := hF.cell hW o0 o1
    rw [if_neg (by omega), if_neg (by omega), if_pos rfl, rd_ok o0 (by omega), Option.bind_some, e3, if_neg (by omega), if_pos rfl]
  · rw [if_neg (by omega), if_neg (by omega), if_neg (by omega), rd_ok r0 (by omega), Option.bind_some, e1, if_neg (by omega), if_neg (by omega)]
theorem FX3_valueOf_ok {N ql qh qf : Nat} {s B : iv_M} {k r o aft w : Int} (hN : 1000 ≤ N) (hT : (sh (qf + 1)).2 = 12) (l0 : s ql 0 = qh) (l1 : s ql 1 = qf) (l4 : s ql 4 = B 114 6) (l5 : s ql 5 = mm B) (l6 : s ql 6 = aft) (hH : HB s qh B) (hW : Wf B) (hF : FRc s qf B) (h : isW B k r o) (hc : cnI B k r o = 1) (p0 : 0 ≤ B 114 3) (p1 : B 114 3 ≤ 6) (w0 : 0 ≤ w) (w1 : w < 13) : FX3_valueOf N s ql w (256 * k + 16 * r + o) = some (ask B k r o (mm B) aft w) := by
  have hr2 := hW.1.2.2.2.2.2.1
  obtain ⟨q0, q1⟩ := cn_gol hW h hc
  have hg := FX3_goal_ok (N := N) (s := s) (ql := ql) hT l1 hW hF h
  obtain ⟨r0, r1, hk⟩ := h
  obtain ⟨g1, g2, g3, g4, g5, g6, g7⟩ := hW.room r0 r1
  obtain ⟨e1, e2⟩ := hF.cell hW r0 r1
  have hn1 : (s ql 1).toNat = qf := by rw [l1]; rfl
  have hn0 : (s ql 0).toNat = qh := by rw [l0]; rfl
  obtain ⟨w4, w5, w6⟩ := wcode (k := k) (r := r) (o := o) (by omega) (by omega) r0 (by omega) (by omega) (by omega)
  have n1 : ¬ (s ql 1 < 0) := by omega
  have n0 : ¬ (s ql 0 < 0) := by omega
  have hw : w = 0 ∨ w = 1 ∨ w = 2 ∨ w = 3 ∨ w = 4 ∨ w = 5 ∨ w = 6 ∨ w = 7 ∨ w = 8 ∨ w = 9 ∨ w = 10 ∨ w = 11 ∨ w = 12 := by omega
  unfold FX3_valueOf FX3_valueOf_b99
  rw [w4, w5, w6, hn1, hn0, hg]
  rcases hw with rfl | rfl | rfl | rfl | rfl | rfl | rfl | rfl | rfl | rfl | rfl | rfl | rfl
  · simp [ask]
  · simp [ask]
  · by_cases hk2 : k = 2 <;> simp [ask, hk2]
  · simp [ask, n1]; rw [rd_ok r0 (by omega), Option.bind_some, e1, bAn_3]
  · simp [ask, n1]; rw [rd_ok r0 (by omega), Option.bind_some, e1, sr32_2]
  · simp [ask, bAn_3]
  · simp [ask, sr32_2]
  · simp [ask, n1]; rw [FX1_doorsOf_ok (by omega) hF r0 r1 (by omega)]
  · simp [ask, n1]; rw [FX1_locksOf_ok (by omega) hF r0 r1 (by omega)]
  · have hs := FX2_sleepersIn_ok (N := N) (q := qh) (s := s) (r := r) (f := B 120) (by omega) (by rw [hH.2.1]; exact p0) (by rw [hH.2.1]; exact p1) (fun i i0 i1 => hH.2.2.2.2 i i0 (by rw [← hH.2.1]; exact i1))
    obtain ⟨m, m1, m2⟩ := slp_lt (f := B 120) (r := r) (B 114 3).toNat (by omega)
    have hp : (2 : Nat) ^ (B 114 3).toNat ≤ 2 ^ 6 := Nat.pow_le_pow_right (by decide) (by omega)
    simp [ask, n0]
    rw [hs, Option.bind_some, hH.2.1, bitCount_ok (by rw [m1]; omega) (by rw [m1]; omega)]
  · simp [ask, l4]
  · simp [ask, l5]
  · simp [ask, l6]
theorem FX2_isFixed_ok {N qh : Nat} {s B : iv_M} {r : Int} (hH : HB s qh B) (r0 : 0 ≤ r) (r1 : r < B 114 2) (r2 : r < 12) : FX2_isFixed N s qh r = some (if B 118 r = 1 then 1 else 0) := by
  unfold FX2_isFixed FX2_isFixed_b17
  rw [b01_0, b01_1, bAn_1]
  have hs : sr32 (s qh 3) r = s qh 3 / 2 ^ r.toNat := by unfold sr32; rw [show (r % 32).toNat = r.toNat by omega]
  rw [hs, hH.2.2.1 r r0 r1]
  split <;> rfl
def LW (s : iv_M) (ql qh qf : Nat) (B : iv_M) (ru : Option (List (List (Int × Int)))) : Prop := LR s ql qh qf B ru ∧ FRc s qf B ∧ FP s qf B
/-- what the class scribbles on when it asks for laws -/
def Scl (ql qf : Nat) (s s' : iv_M) : Prop := (∀ a, (a < qf ∨ qf + 5 < a) → a ≠ ql → a ≠ ql + 1 → s' a = s a) ∧ ∀ i, i ≠ 6 → s' ql i = s ql i
theorem Scl.refl {ql qf : Nat} {s : iv_M} : Scl ql qf s s := ⟨fun _ _ _ _ => rfl, fun _ _ => rfl⟩
theorem Scl.trans {ql qf : Nat} {s s1 s2 : iv_M} (h : Scl ql qf s s1) (h2 : Scl ql qf s1 s2) : Scl ql qf s s2 := ⟨fun a x y z => (h2.1 a x y z).trans (h.1 a x y z), fun i x => (h2.2 i x).trans (h.2 i x)⟩
theorem LW_scl {s s' B : iv_M} {ql qh qf : Nat} {ru : Option (List (List (Int × Int)))} (hS : Sp ql qh qf) (h : Scl ql qf s s') (hL : LR s ql qh qf B ru) : LR s' ql qh qf B ru := by
  unfold Sp at hS
  exact LR_ext h.2 (h.1 qh (by omega) (by omega) (by omega)) (h.1 (qh + 9) (by omega) (by omega) (by omega)) (fun a ha => h.1 a (by omega) (by omega) (by omega)) hL
theorem FX3_broken_ok {N ql qh qf : Nat} {s B : iv_M} {k r o : Int} {ru : Option (List (List (Int × Int)))} (hN : 1000 ≤ N) (hS : Sp ql qh qf) (hT : TF qf) (hT1 : (sh (qf + 1)).2 = 12) (hTl : (sh (ql + 1)).2 = 64) (hW : Wf B) (hL : LW s ql qh qf B ru) (h : isW B k r o) (p0 : 0 ≤ B 114 3) (p1 : B 114 3 ≤ 6) : ∃ s', FX3_broken N s ql (256 * k + 16 * r + o) = some (lwf ru B k r o, s') ∧ LW s' ql qh qf B ru ∧ Scl ql qf s s' := by
  have hr2 := hW.1.2.2.2.2.2.1
  have hL0 := hL
  obtain ⟨hLR, hF, hP⟩ := hL
  have hLR0 := hLR
  obtain ⟨l0, l1, l2, l3, l4, l5, l6, l7⟩ := hLR
  have h' := h
  obtain ⟨r0, r1, hk⟩ := h
  obtain ⟨w4, w5, w6⟩ := wcode (k := k) (r := r) (o := o) (by omega) (by omega) r0 (by omega) (by omega) (by omega)
  have hk3 : 1 ≤ k ∧ k ≤ 3 := by omega
  have hn1 : (s ql 1).toNat = qf := by rw [l1]; rfl
  have hn0 : (s ql 0).toNat = qh := by rw [l0]; rfl
  have ho : k = 2 → 0 ≤ o ∧ o < B 114 2 := fun z => by omega
  unfold FX3_broken
  rw [if_neg (by omega), if_neg (by omega), w4, w5, w6]
  have same : ∀ _ : Unit, ∃ s', some (lwf ru B k r o, s) = some (lwf ru B k r o, s') ∧ LW s' ql qh qf B ru ∧ Scl ql qf s s' := fun _ => ⟨s, rfl, hL0, Scl.refl⟩
  have main : ∀ x : Int, 0 ≤ x → x < B 114 2 → x < 12 → (k = 2 ∧ x = o ∨ k ≠ 2 ∧ x = r) → ∃ s', FX3_broken_b41 N s ql (256 * k + 16 * r + o) k r x = some (lwf ru B k r o, s') ∧ LW s' ql qh qf B ru ∧ Scl ql qf s s' := by
    intro x x0 x1 x2 hx
    unfold FX3_broken_b41 FX3_broken_b82
    rw [if_neg (show ¬ s ql 0 < 0 by omega), hn0, hn1, l2.1, way_bit hk3.1 hk3.2]
    by_cases w1 : B 114 4 / 2 ^ (k - 1).toNat % 2 = 0
    · have e : lwf ru B k r o = 1 := by unfold lwf; rw [if_pos (Or.inl w1)]
      rw [if_pos w1, ← e]; exact same ()
    rw [if_neg w1, if_neg (show ¬ s ql 0 < 0 by omega), FX2_isFixed_ok l2 r0 r1 (by omega), Option.bind_some]
    by_cases w2 : B 118 r = 1
    · have e : lwf ru B k r o = 1 := by unfold lwf; rw [if_pos (Or.inr (Or.inl w2))]
      rw [if_pos w2, if_neg (by omega), ← e]; exact same ()
    rw [if_neg w2, if_pos rfl, if_neg (by omega), FX2_isFixed_ok l2 x0 x1 x2, Option.bind_some]
    by_cases w3 : B 118 x = 1
    · have e : lwf ru B k r o = 1 := by
        unfold lwf
        rcases hx with ⟨z1, z2⟩ | ⟨z1, z2⟩
        · rw [if_pos (Or.inr (Or.inr ⟨z1, by rw [← z2]; exact w3⟩))]
        · rw [z2] at w3; exact absurd w3 w2
      rw [if_pos w3, if_neg (by omega), ← e]; exact same ()
    rw [if_neg w3, if_pos rfl, if_neg (by omega), FX1_canGo_ok (by omega) hW hF h', Option.bind_some]
    have hno : ¬ (B 114 4 / 2 ^ (k - 1).toNat % 2 = 0 ∨ B 118 r = 1 ∨ (k = 2 ∧ B 118 o = 1)) := by
      rintro (z | z | ⟨z1, z2⟩)
      · exact w1 z
      · exact w2 z
      · rcases hx with ⟨z3, z4⟩ | ⟨z3, z4⟩
        · rw [z4] at w3; exact w3 z2
        · exact z3 z1
    rcases cn_01 B k r o with w7 | w7
    · have e : lwf ru B k r o = 2 := by unfold lwf; rw [if_neg hno, if_pos w7]
      rw [if_pos w7, ← e]; exact same ()
    rw [if_neg (by omega)]
    by_cases w8 : s ql 3 = 0
    · have hcn : ¬ cnt B ru := fun z => by have := l5.mpr z; omega
      have c1 : B 114 5 = 0 := by
        by_cases z : B 114 5 = 0
        · exact z
        · exact absurd (Or.inl z) hcn
      have c2 : ru = none := by
        cases hru : ru with
        | none => rfl
        | some R => exact absurd (Or.inr (by rw [hru]; intro z; cases z)) hcn
      have e : lwf ru B k r o = 0 := by
        unfold lwf; rw [if_neg hno, if_neg (by omega), if_neg (by omega), c2, if_neg (by unfold brd; intro z; cases z)]
      rw [if_pos w8, ← e]; exact same ()
    have hcn : cnt B ru := l5.mp (by omega)
    have l7' := l7 hcn
    rw [if_neg w8]
    obtain ⟨s1, a1, a2, a3, a4⟩ := FX1_gain_ok (N := N) (by omega) hT hW hF hP h' w7
    rw [if_neg (show ¬ s ql 1 < 0 by omega), a1, Option.bind_some]
    dsimp only
    have m0 := mm_bd B
    have m1 := mm_bd (wlk B k r o)
    rw [pt_ok, Option.bind_some, l7', w32_id (by omega) (by omega), show mm B + (mm (wlk B k r o) - mm B) = mm (wlk B k r o) by omega]
    have hSp : ∀ a, qf ≤ a → a ≤ qf + 6 → a ≠ ql ∧ a ≠ ql + 1 := fun a x y => Sp_q hS x y
    have hSl : ql < qf ∨ qf + 5 < ql := by have := Sp_l hS; clear same; omega
    obtain ⟨sf1, sf2, sf3, sf4, sf5, sf6, sf7⟩ := Sp_f hS
    have S2 : Scl ql qf s (mu s1 ql 6 (mm (wlk B k r o))) := by
      refine ⟨fun a x y z => ?_, fun i x => ?_⟩
      · rw [mu_rw y]; funext j; exact a4 a j x
      · rw [mu_ne (by omega)]; exact a4 ql i hSl
    have F2 : FRc (mu s1 ql 6 (mm (wlk B k r o))) qf B := FRc_ext (fun a x y => mu_rw (hSp a x y).1) a2
    have P2 : FP (mu s1 ql 6 (mm (wlk B k r o))) qf B := FP_ext (mu_rw (hSp qf (by omega) (by omega)).1) a3
    have L2 := LW_scl hS S2 hLR0
    have h6 : mu s1 ql 6 (mm (wlk B k r o)) ql 6 = mm (wlk B k r o) := mu_eq
    generalize mu s1 ql 6 (mm (wlk B k r o)) = t at *
    obtain ⟨k0, k1, k2, k3, k4, k5, k6, k7⟩ := L2
    have k7' := k7 hcn
    have hm0 : (t ql 0).toNat = qh := by rw [k0]; rfl
    have L2 : LR t ql qh qf B ru := ⟨k0, k1, k2, k3, k4, k5, k6, k7⟩
    rw [if_neg (by omega), hm0, k2.2.2.2.1, h6, k7']
    have last : ¬ ((B 114 5 = 1 ∧ mm B < mm (wlk B k r o)) ∨ (B 114 5 = 2 ∧ 0 < mm (wlk B k r o))) → ∃ s', FX3_broken_b165 N t ql (256 * k + 16 * r + o) = some (lwf ru B k r o, s') ∧ LW s' ql qh qf B ru ∧ Scl ql qf s s' := by
      intro hnl
      have e : lwf ru B k r o = if brd ru (ask B k r o (mm B) (mm (wlk B k r o))) = true then 4 else 0 := by
        unfold lwf; rw [if_neg hno, if_neg (by omega), if_neg hnl]
      rw [e]
      unfold FX3_broken_b165 FX3_broken_b184 FX3_broken_b185
      rcases k3 with ⟨z1, z2⟩ | ⟨f, R, z1, z2, z3, z4, z5⟩
      · rw [if_pos (by omega), z1]
        exact ⟨t, rfl, ⟨z1 ▸ L2, F2, P2⟩, S2⟩
      · rw [if_neg (by omega), z3]
        obtain ⟨u1, u2, u3, u4, u5, u6, u7, u8, u9, u10⟩ := z5
        obtain ⟨s3, b1, b2⟩ := FX3_isBarred_ok (N := N) (ql := ql) (q := 3 + f.toNat) (s := t) (walk := 256 * k + 16 * r + o) (A := ask B k r o (mm B) (mm (wlk B k r o))) (R := R) hN hTl (by omega) (by rw [z4]; omega) (fun s' hs' w w0 w1 => by
          have hql : s' ql = t ql := hs' ql (by omega)
          exact FX3_valueOf_ok hN hT1 (by rw [hql]; exact k0) (by rw [hql]; exact k1) (by rw [hql]; exact k6) (by rw [hql]; exact k7') (by rw [hql]; exact h6) (HB_ext (hs' qh sf5) (hs' (qh + 9) sf7) k2) hW (FRc_ext (fun a x y => hs' a (hSp a x y).2) F2) h' w7 p0 p1 w0 w1) u1 u2 u7 u8 u9 u10
        rw [b1, Option.bind_some]
        dsimp only
        have S3 : Scl ql qf t s3 := ⟨fun a x y z => b2 a z, fun i x => by rw [b2 ql (by omega)]⟩
        refine ⟨s3, ?_, ⟨z3 ▸ LW_scl hS S3 L2, FRc_ext (fun a x y => b2 a (hSp a x y).2) F2, FP_ext (b2 qf (hSp qf (by omega) (by omega)).2) P2⟩, S2.trans S3⟩
        unfold brd
        split
        · rw [if_neg (by omega)]
        · rw [if_pos rfl]
    have e3 : ((B 114 5 = 1 ∧ mm B < mm (wlk B k r o)) ∨ (B 114 5 = 2 ∧ 0 < mm (wlk B k r o))) → lwf ru B k r o = 3 := by
      intro z; unfold lwf; rw [if_neg hno, if_neg (by omega), if_pos z]
    have same3 : lwf ru B k r o = 3 → ∃ s', some ((3 : Int), t) = some (lwf ru B k r o, s') ∧ LW s' ql qh qf B ru ∧ Scl ql qf s s' := fun z => ⟨t, by rw [z], ⟨L2, F2, P2⟩, S2⟩
    have hb145 : FX3_broken_b145 N t ql (256 * k + 16 * r + o) = if B 114 5 = 2 then (if mm (wlk B k r o) ≤ 0 then FX3_broken_b165 N t ql (256 * k + 16 * r + o) else some (3, t)) else FX3_broken_b165 N t ql (256 * k + 16 * r + o) := by
      unfold FX3_broken_b145 FX3_broken_b163
      rw [if_neg (show ¬ t ql 0 < 0 by omega), hm0, k2.2.2.2.1, h6]
    rw [hb145]
    unfold FX3_broken_b163
    by_cases l8 : B 114 5 = 1
    · rw [if_pos l8]
      by_cases l9 : mm B < mm (wlk B k r o)
      · rw [if_pos l9]; exact same3 (e3 (Or.inl ⟨l8, l9⟩))
      · rw [if_neg l9, if_neg (by omega)]; exact last (by omega)
    · rw [if_neg l8]
      by_cases l9 : B 114 5 = 2
      · rw [if_pos l9]
        by_cases l10 : mm (wlk B k r o) ≤ 0
        · rw [if_pos l10]; exact last (by omega)
        · rw [if_neg l10]; exact same3 (e3 (Or.inr ⟨l9, by omega⟩))
      · rw [if_neg l9]; exact last (by omega)
  by_cases hk2 : k = 2
  · rw [if_pos hk2]; exact main o (ho hk2).1 (ho hk2).2 (by have := (ho hk2).2; clear main same; omega) (Or.inl ⟨hk2, rfl⟩)
  · rw [if_neg hk2]; exact main r r0 r1 (by clear main same; omega) (Or.inr ⟨hk2, rfl⟩)
