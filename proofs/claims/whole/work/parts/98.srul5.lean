-- RULE: the reference's rows, and its values
def RK (r : iv_M) (sl : Int) (B : List (Int × Int)) (O : List Int) (dep cnt : Int) : Prop := r 113 31 = sl ∧ (r 113 33 = B.length ∧ EN r sl 0 B) ∧ (r 113 36 = O.length ∧ SR (r 145) O) ∧ r 113 34 = dep ∧ r 113 35 = cnt ∧ r 113 37 = 13
def FrR (sl : Int) (r r' : iv_M) : Prop := (∀ a, a ≠ 113 → a ≠ 140 → a ≠ 141 → a ≠ 145 → r' a = r a) ∧ (∀ j, ¬ (300 * sl ≤ j ∧ j < 300 * sl + 300) → r' 140 j = r 140 j ∧ r' 141 j = r 141 j) ∧ ∀ i, i ≠ 29 → i ≠ 30 → i ≠ 33 → i ≠ 34 → i ≠ 35 → i ≠ 36 → r' 113 i = r 113 i
theorem FrR.refl {sl : Int} {r : iv_M} : FrR sl r r := ⟨fun _ _ _ _ _ => rfl, fun _ _ => ⟨rfl, rfl⟩, fun _ _ _ _ _ _ _ => rfl⟩
theorem FrR.trans {sl : Int} {r r1 r2 : iv_M} (h : FrR sl r r1) (h2 : FrR sl r1 r2) : FrR sl r r2 := ⟨fun a x y z w => (h2.1 a x y z w).trans (h.1 a x y z w), fun j hj => ⟨((h2.2.1 j hj).1).trans (h.2.1 j hj).1, ((h2.2.1 j hj).2).trans (h.2.1 j hj).2⟩, fun i x1 x2 x3 x4 x5 x6 => (h2.2.2 i x1 x2 x3 x4 x5 x6).trans (h.2.2 i x1 x2 x3 x4 x5 x6)⟩
theorem FrR_rt {sl : Int} {r : iv_M} {p ft : Int} : FrR sl r (rtM r p ft) := ⟨fun a x _ _ _ => rtM_o x, fun j _ => by rw [rtM_o (by decide), rtM_o (by decide)]; exact ⟨rfl, rfl⟩, fun i x1 x2 _ _ _ _ => rtM_i x1 x2⟩
theorem FrR_m {sl : Int} {r : iv_M} {i v : Int} (h : i = 29 ∨ i = 30 ∨ i = 33 ∨ i = 34 ∨ i = 35 ∨ i = 36) : FrR sl r (mu r 113 i v) := ⟨fun a x _ _ _ => mu_rw x, fun j _ => by rw [mu_rw (by decide), mu_rw (by decide)]; exact ⟨rfl, rfl⟩, fun j x1 x2 x3 x4 x5 x6 => mu_ne (by omega)⟩
theorem RK_rt {r : iv_M} {sl dep cnt p ft : Int} {B : List (Int × Int)} {O : List Int} (h : RK r sl B O dep cnt) : RK (rtM r p ft) sl B O dep cnt := by
  obtain ⟨a1, ⟨a2, a3⟩, ⟨a4, a5⟩, a6, a7, a8⟩ := h
  exact ⟨by rw [rtM_i (by omega) (by omega)]; exact a1, ⟨by rw [rtM_i (by omega) (by omega)]; exact a2, EN_ext (rtM_o (by decide)) (rtM_o (by decide)) _ _ a3⟩, ⟨by rw [rtM_i (by omega) (by omega)]; exact a4, by rw [rtM_o (by decide)]; exact a5⟩, by rw [rtM_i (by omega) (by omega)]; exact a6, by rw [rtM_i (by omega) (by omega)]; exact a7, by rw [rtM_i (by omega) (by omega)]; exact a8⟩
theorem RT_i {r : iv_M} {b : Int → Int} {L p ft i v : Int} (h : RT r b L p ft) (h1 : i ≠ 28) (h2 : i ≠ 29) (h3 : i ≠ 30) : RT (mu r 113 i v) b L p ft := ⟨by rw [mu_ne (by omega)]; exact h.1, by rw [mu_ne (by omega)]; exact h.2.1, by rw [mu_ne (by omega)]; exact h.2.2.1, fun j j0 j1 => by rw [mu_rw (by decide)]; exact h.2.2.2 j j0 j1⟩
theorem EN_mu {r : iv_M} {sl v w j : Int} : ∀ (B : List (Int × Int)) (i : Int), i + B.length ≤ j → EN r sl i B → EN (mu (mu r 140 (300 * sl + j) v) 141 (300 * sl + j) w) sl i B := by
  intro B
  induction B with
  | nil => intro i _ _; trivial
  | cons e es ih =>
    intro i hi h
    have hl : ((e :: es).length : Int) = (es.length : Int) + 1 := by simp
    exact ⟨by rw [mu_rw (by decide), mu_ne (by omega)]; exact h.1, by rw [mu_ne (by omega), mu_rw (by decide)]; exact h.2.1, ih (i + 1) (by omega) h.2.2⟩
theorem EN_app {r : iv_M} {sl : Int} : ∀ (B C : List (Int × Int)) (i : Int), EN r sl i (B ++ C) ↔ EN r sl i B ∧ EN r sl (i + B.length) C := by
  intro B
  induction B with
  | nil => intro C i; show EN r sl i C ↔ True ∧ EN r sl (i + ((0 : Nat) : Int)) C; rw [show i + ((0 : Nat) : Int) = i by omega]; exact ⟨fun h => ⟨trivial, h⟩, fun h => h.2⟩
  | cons e es ih =>
    intro C i
    have hl : i + ((e :: es).length : Int) = i + 1 + (es.length : Int) := by simp; omega
    rw [hl]
    show (r 140 (300 * sl + i) = e.1 ∧ r 141 (300 * sl + i) = e.2 ∧ EN r sl (i + 1) (es ++ C)) ↔ (r 140 (300 * sl + i) = e.1 ∧ r 141 (300 * sl + i) = e.2 ∧ EN r sl (i + 1) es) ∧ EN r sl (i + 1 + (es.length : Int)) C
    rw [ih]
    exact ⟨fun h => ⟨⟨h.1, h.2.1, h.2.2.1⟩, h.2.2.2⟩, fun h => ⟨h.1.1, h.1.2.1, h.1.2.2, h.2⟩⟩
theorem entry_ok {N : Nat} {r : iv_M} {b : Int → Int} {L p sl dep cnt k n : Int} {B : List (Int × Int)} {O : List Int} (hR : RT r b L p 0) (h : RK r sl B O dep cnt) (s0 : 0 ≤ sl) (s1 : sl < 6) (hl : B.length < 300) : ∃ r', FX12_entry N r 113 k n = some r' ∧ RT r' b L p 0 ∧ RK r' sl (B ++ [(k, n)]) O dep cnt ∧ FrR sl r r' := by
  obtain ⟨a1, ⟨a2, a3⟩, ⟨a4, a5⟩, a6, a7, a8⟩ := h
  obtain ⟨y, hy⟩ : ∃ y, y = mu (mu r 140 (300 * sl + B.length) k) 141 (300 * sl + B.length) n := ⟨_, rfl⟩
  have yo : ∀ a, a ≠ 140 → a ≠ 141 → y a = r a := fun a x1 x2 => by rw [hy, mu_rw x2, mu_rw x1]
  have yR : RT y b L p 0 := by rw [hy]; exact RT_mu (RT_mu hR (by decide) (by decide)) (by decide) (by decide)
  have e33 : y 113 33 = B.length := by rw [yo _ (by decide) (by decide)]; exact a2
  refine ⟨mu y 113 33 ((B.length : Int) + 1), ?_, RT_i yR (by omega) (by omega) (by omega), ⟨?_, ⟨?_, ?_⟩, ⟨?_, ?_⟩, ?_, ?_, ?_⟩, ?_⟩
  · unfold FX12_entry FX12_entry_b55
    simp only [Nat.reduceAdd]
    rw [hR.2.2.1, if_pos rfl, a1, a2, w32_id (x := 300 * sl) (by omega) (by omega), w32_id (x := 300 * sl + (B.length : Int)) (by omega) (by omega), wr_ok (by omega) (by omega), Option.bind_some, mu_rw (show (113 : Nat) ≠ 140 by decide), a1, a2, w32_id (x := 300 * sl) (by omega) (by omega), w32_id (x := 300 * sl + (B.length : Int)) (by omega) (by omega), wr_ok (by omega) (by omega), Option.bind_some, ← hy, pt_ok, Option.bind_some, e33, w32_id (by omega) (by omega)]
  · rw [mu_ne (by omega), yo _ (by decide) (by decide)]; exact a1
  · rw [mu_eq, List.length_append]; rfl
  · refine EN_ext (s := y) (mu_rw (by decide)) (mu_rw (by decide)) _ _ ?_
    rw [EN_app]
    refine ⟨by rw [hy]; exact EN_mu B 0 (by omega) a3, ?_, ?_, trivial⟩
    · rw [Int.zero_add, hy, mu_rw (by decide), mu_eq]
    · rw [Int.zero_add, hy, mu_eq]
  · rw [mu_ne (by omega), yo _ (by decide) (by decide)]; exact a4
  · rw [mu_rw (by decide), yo _ (by decide) (by decide)]; exact a5
  · rw [mu_ne (by omega), yo _ (by decide) (by decide)]; exact a6
  · rw [mu_ne (by omega), yo _ (by decide) (by decide)]; exact a7
  · rw [mu_ne (by omega), yo _ (by decide) (by decide)]; exact a8
  · refine ⟨fun a x1 x2 x3 _ => by rw [mu_rw x1, yo a x2 x3], fun j hj => ?_, fun i x1 x2 x3 x4 x5 x6 => by rw [mu_ne (by omega), yo _ (by decide) (by decide)]⟩
    rw [mu_rw (by decide), mu_rw (by decide), hy, mu_rw (show (140 : Nat) ≠ 141 by decide), mu_ne (by omega), mu_ne (by omega), mu_rw (show (141 : Nat) ≠ 140 by decide)]
    exact ⟨rfl, rfl⟩
theorem entry_bad {N : Nat} {r : iv_M} {k n : Int} (h : r 113 30 ≠ 0) : FX12_entry N r 113 k n = some r := by
  unfold FX12_entry FX12_entry_b55; rw [if_neg h]
theorem RK_cnt {r : iv_M} {sl dep cnt v : Int} {B : List (Int × Int)} {O : List Int} (h : RK r sl B O dep cnt) : RK (mu r 113 35 v) sl B O dep v := by
  obtain ⟨a1, ⟨a2, a3⟩, ⟨a4, a5⟩, a6, a7, a8⟩ := h
  exact ⟨by rw [mu_ne (by omega)]; exact a1, ⟨by rw [mu_ne (by omega)]; exact a2, EN_ext (mu_rw (by decide)) (mu_rw (by decide)) _ _ a3⟩, ⟨by rw [mu_ne (by omega)]; exact a4, by rw [mu_rw (by decide)]; exact a5⟩, by rw [mu_ne (by omega)]; exact a6, mu_eq, by rw [mu_ne (by omega)]; exact a8⟩
theorem isCounted_ok {N : Nat} {r : iv_M} {b : Int → Int} {L p ft x : Int} (hR : RT r b L p ft) (x0 : 0 ≤ x) (x1 : x ≤ 1000) : FX12_isCounted N r 113 x = some (mu (rtM r p (if r 113 35 = 60 then ffl ft x 3 else ft)) 113 35 (w32 (r 113 35 + 1))) := by
  unfold FX12_isCounted FX12_isCounted_b15
  by_cases g : r 113 35 = 60
  · rw [if_pos g, if_pos g, fails_ok hR x0 x1 (by omega) (by omega), Option.bind_some, pt_ok, Option.bind_some, rtM_i (by omega) (by omega)]
  · rw [if_neg g, if_neg g, pt_ok, Option.bind_some, rtM_same hR]
-- the words of values
theorem wordOf_ok {N : Nat} {z : iv_M} {k : Nat} (h : k < 13) : FX12_wordOf N z (k : Int) = some (1000015 + k) ∧ Str (1000015 + k) (vws.getD k []) ∧ (vws.getD k []).length ≤ 100 := by
  have : k = 0 ∨ k = 1 ∨ k = 2 ∨ k = 3 ∨ k = 4 ∨ k = 5 ∨ k = 6 ∨ k = 7 ∨ k = 8 ∨ k = 9 ∨ k = 10 ∨ k = 11 ∨ k = 12 := by omega
  rcases this with rfl | rfl | rfl | rfl | rfl | rfl | rfl | rfl | rfl | rfl | rfl | rfl | rfl
  all_goals exact ⟨rfl, str_ok (by decide), by decide⟩
theorem idw_drop {b : Int → Int} {p e : Int} {k : Nat} (h : k < 13) : idw b p e (vws.drop k) (k : Int) = if isw b p e (vws.getD k []) = true then (k : Int) else idw b p e (vws.drop (k + 1)) ((k + 1 : Nat) : Int) := by
  have hl : k < vws.length := h
  rw [List.drop_eq_getElem_cons hl]
  have : vws.getD k [] = vws[k] := by rw [List.getD_eq_getElem?_getD, List.getElem?_eq_getElem hl]; rfl
  rw [this]
  rfl
theorem vw_loop {N : Nat} {z : iv_M} {b : Int → Int} {L p ft x : Int} {kx : iv_M → Int → Option iv_M} (hN : 1000 ≤ N) (hR : RT z b L p ft) (h37 : z 113 37 = 13) (hT : TX b L) (p0 : 0 ≤ p) (p1 : p ≤ 1000) : ∀ (m k f : Nat), k + m = 13 → m < f → FX12_value_l38 N 113 x kx f z (k : Int) = kx z (if idw b p (el b L p) (vws.drop k) (k : Int) = -1 then 13 else idw b p (el b L p) (vws.drop k) (k : Int)) := by
  intro m
  induction m with
  | zero =>
    intro k f hk hf
    obtain ⟨f', rfl⟩ : ∃ f', f = f' + 1 := ⟨f - 1, by omega⟩
    have : k = 13 := by omega
    subst this
    rw [FX12_value_l38, h37, if_pos (by omega)]
    rfl
  | succ m ih =>
    intro k f hk hf
    obtain ⟨f', rfl⟩ : ∃ f', f = f' + 1 := ⟨f - 1, by omega⟩
    obtain ⟨w1, w2, w3⟩ := wordOf_ok (N := N) (z := z) (k := k) (by omega)
    have nx := ih (k + 1) f' (by omega) (by omega)
    rw [FX12_value_l38, h37, if_neg (by omega), w1, Option.bind_some, stood_ok hN hR hT w2 w3 p0 p1, Option.bind_some, idw_drop (by omega), w32_id (by omega) (by omega)]
    by_cases g : isw b p (el b L p) (vws.getD k []) = true
    · rw [if_pos g, if_neg (by decide), if_pos g, if_neg (by omega)]
    · rw [if_neg g, if_pos rfl, if_neg g]; exact nx
/-- a word of length one at least stands only where a letter does -/
theorem idw_none {b : Int → Int} {L p : Int} (h : ¬ (p < L ∧ isLt (b p) = true)) : idw b p (el b L p) vws 0 = -1 := by
  have he : el b L p = p := rnn_stop h
  rw [he]
  have gen : ∀ (ws : List (List Int)) (n : Int), (∀ w, w ∈ ws → w.length ≠ 0) → idw b p p ws n = -1 := by
    intro ws
    induction ws with
    | nil => intro n _; rfl
    | cons w ws ih =>
      intro n hh
      unfold idw isw
      have := hh w List.mem_cons_self
      rw [decide_eq_false (by omega), Bool.false_and, if_neg (by decide)]
      exact ih (n + 1) (fun v hv => hh v (List.mem_cons_of_mem _ hv))
  exact gen vws 0 (by decide)
theorem isw_len {b : Int → Int} {p e : Int} {w : List Int} (h : isw b p e w = true) : e = p + w.length := by
  unfold isw at h
  rw [Bool.and_eq_true, decide_eq_true_iff] at h
  exact h.1
/-- how a value goes by, fault or not -/
theorem value_gen {N : Nat} {r : iv_M} {b : Int → Int} {L p ft : Int} (hN : 1000 ≤ N) (hR : RT r b L p ft) (h37 : r 113 37 = 13) (hT : TX b L) (p0 : 0 ≤ p) (p1 : p ≤ 402) : FX12_value N r 113 = (if bl b L p < L ∧ isDg (b (bl b L p)) = true then ((FX12_isCounted N (rtM r (edg b L (bl b L p)) (dft b L (bl b L p) ft)) 113 (bl b L p)).bind fun s_2503 => ((FX12_entry N s_2503 113 0 (nmv b L (bl b L p))).bind fun s_2505 => some s_2505)) else if idw b (bl b L p) (el b L (bl b L p)) vws 0 = -1 then some (rtM r (bl b L p) (ffl ft (bl b L p) 0)) else ((FX12_isCounted N (rtM r (bl b L p) ft) 113 (bl b L p)).bind fun s_2514 => ((FX12_entry N (mu s_2514 113 29 (w32 (s_2514 113 29 + (el b L (bl b L p) - bl b L p)))) 113 1 (idw b (bl b L p) (el b L (bl b L p)) vws 0)).bind fun s_2521 => some s_2521))) := by
  have hL := hT.2.1
  obtain ⟨p', hp'⟩ : ∃ p', p' = bl b L p := ⟨_, rfl⟩
  have q0 : p ≤ p' := by rw [hp']; exact rnn_ge
  have q1 : p' ≤ 402 := by
    rw [hp']
    by_cases z : p ≤ L
    · have : bl b L p ≤ L := rnn_le z
      omega
    · have : bl b L p = p := rnn_stop (by omega)
      omega
  have hR1 : RT (rtM r p' ft) b L p' ft := RT_M hR
  rw [← hp']
  unfold FX12_value
  rw [blanks_ok hN hR hT p0 (by omega), Option.bind_some, ← hp', rDigit_ok hR1 hT (by omega), Option.bind_some]
  by_cases d : p' < L ∧ isDg (b p') = true
  · rw [if_pos d, if_neg (by decide), if_pos d, digits_ok hN hR1 hT (by omega) (by omega), Option.bind_some]
    dsimp only
    rw [rtM_rtM, rtM_p]
  · have lp := vw_loop (N := N) (z := rtM r p' ft) (x := p') (kx := fun (s_2498 : iv_M) (x2499_2 : Int) => (FX12_value_b63 N s_2498 113 p' x2499_2)) hN hR1 (by rw [rtM_i (by omega) (by omega)]; exact h37) hT (by omega) (by omega) 13 0 N (by omega) (by omega)
    have d0 : vws.drop 0 = vws := rfl
    have z0 : ((0 : Nat) : Int) = 0 := rfl
    rw [d0, z0] at lp
    rw [if_neg d, if_pos rfl, if_neg d, rtM_p]
    refine lp.trans ?_
    unfold FX12_value_b63
    have e37 : rtM r p' ft 113 37 = 13 := by rw [rtM_i (by omega) (by omega)]; exact h37
    by_cases g : idw b p' (el b L p') vws 0 = -1
    · rw [if_pos g, if_pos g, e37, if_pos rfl, fails_ok hR1 (by omega) (by omega) (by omega) (by omega), Option.bind_some, rtM_rtM]
    · rw [if_neg g, if_neg g, e37]
      have ig := idw_ge (b := b) (p := p') (e := el b L p') vws 0 (by omega)
      have l13 : ((vws.length : Nat) : Int) = 13 := by decide
      have kr : 0 ≤ idw b p' (el b L p') vws 0 ∧ idw b p' (el b L p') vws 0 < 13 := by omega
      obtain ⟨k, hk⟩ : ∃ k : Nat, idw b p' (el b L p') vws 0 = k := ⟨(idw b p' (el b L p') vws 0).toNat, by omega⟩
      obtain ⟨w, w1, w2⟩ := idw_at (b := b) (p := p') (e := el b L p') vws 0 k (by omega) (by omega)
      have k13 : k < 13 := by omega
      rw [if_neg (by omega), isCounted_ok hR1 (by omega) (by omega), Option.bind_some, Option.bind_some, hk]
      obtain ⟨u1, u2, u3⟩ := wordOf_ok (N := N) (z := mu (rtM (rtM r p' ft) p' (if rtM r p' ft 113 35 = 60 then ffl ft p' 3 else ft)) 113 35 (w32 (rtM r p' ft 113 35 + 1))) (k := k) k13
      rw [u1, Option.bind_some, pt_ok, Option.bind_some, u2.1]
      have ew : vws.getD k [] = w := by rw [List.getD_eq_getElem?_getD, w1]; rfl
      have el' := isw_len w2
      rw [ew, show (w.length : Int) = el b L p' - p' by omega]
theorem dft_bad {b : Int → Int} {L p ft : Int} (h : ft ≠ 0) : dft b L p ft = ft := by
  have e : ∀ k, ffl ft p k = ft := fun k => by unfold ffl; rw [if_neg h]
  unfold dft
  rw [e, e]
  split
  · rfl
  · split <;> rfl
theorem ffl_bad {ft p k : Int} (h : ft ≠ 0) : ffl ft p k = ft := by unfold ffl; rw [if_neg h]
/-- after a fault nothing of weight is done -/
def FrH (r r' : iv_M) : Prop := (∀ a, a ≠ 113 → r' a = r a) ∧ ∀ i, i ≠ 29 → i ≠ 35 → r' 113 i = r 113 i
theorem FrH.refl {r : iv_M} : FrH r r := ⟨fun _ _ => rfl, fun _ _ _ => rfl⟩
theorem FrH.trans {r r1 r2 : iv_M} (h : FrH r r1) (h2 : FrH r1 r2) : FrH r r2 := ⟨fun a x => (h2.1 a x).trans (h.1 a x), fun i x y => (h2.2 i x y).trans (h.2 i x y)⟩
def Bad (b : Int → Int) (L ft : Int) (r r' : iv_M) : Prop := FrH r r' ∧ ∃ p, 0 ≤ p ∧ p ≤ 402 ∧ RT r' b L p ft
theorem FrH_rt {r : iv_M} {b : Int → Int} {L p q ft : Int} (h : RT r b L p ft) : FrH r (rtM r q ft) := ⟨fun a x => rtM_o x, fun i x y => by
  by_cases z : i = 30
  · rw [z, rtM_f, h.2.2.1]
  · exact rtM_i x z⟩
theorem blanks_bad {N : Nat} {r : iv_M} {b : Int → Int} {L p ft : Int} (hN : 1000 ≤ N) (hR : RT r b L p ft) (hT : TX b L) (p0 : 0 ≤ p) (p1 : p ≤ 402) : ∃ r', FX12_blanks N r 113 = some r' ∧ Bad b L ft r r' := by
  have hL := hT.2.1
  have q0 : p ≤ bl b L p := rnn_ge
  have q1 : bl b L p ≤ 402 := by
    by_cases z : p ≤ L
    · have : bl b L p ≤ L := rnn_le z
      omega
    · have : bl b L p = p := rnn_stop (by omega)
      omega
  exact ⟨_, blanks_ok hN hR hT p0 (by omega), FrH_rt hR, bl b L p, by omega, q1, RT_M hR⟩
theorem value_bad {N : Nat} {r : iv_M} {b : Int → Int} {L p ft : Int} (hN : 1000 ≤ N) (hf : ft ≠ 0) (hR : RT r b L p ft) (h37 : r 113 37 = 13) (hT : TX b L) (p0 : 0 ≤ p) (p1 : p ≤ 402) : ∃ r', FX12_value N r 113 = some r' ∧ Bad b L ft r r' := by
  have hL := hT.2.1
  obtain ⟨p', hp'⟩ : ∃ p', p' = bl b L p := ⟨_, rfl⟩
  have q0 : p ≤ p' := by rw [hp']; exact rnn_ge
  have q1 : p' ≤ 402 := by
    rw [hp']
    by_cases z : p ≤ L
    · have : bl b L p ≤ L := rnn_le z
      omega
    · have : bl b L p = p := rnn_stop (by omega)
      omega
  have e0 : p' ≤ el b L p' := rnn_ge
  have e1 : el b L p' ≤ 402 := by
    by_cases z : p' ≤ L
    · have : el b L p' ≤ L := rnn_le z
      omega
    · have : el b L p' = p' := rnn_stop (by omega)
      omega
  have g0 : p' ≤ edg b L p' := rnn_ge
  have g1 : edg b L p' ≤ 402 := by
    by_cases z : p' ≤ L
    · have : edg b L p' ≤ L := rnn_le z
      omega
    · have : edg b L p' = p' := rnn_stop (by omega)
      omega
  have hc : ∀ z x, RT z b L x ft → (if z 113 35 = 60 then ffl ft p' 3 else ft) = ft := fun z x _ => by
    by_cases u : z 113 35 = 60
    · rw [if_pos u, ffl_bad hf]
    · rw [if_neg u]
  rw [value_gen hN hR h37 hT p0 p1, ← hp', dft_bad hf, ffl_bad hf]
  have R1 : RT (rtM r (edg b L p') ft) b L (edg b L p') ft := RT_M hR
  have R2 : RT (rtM r p' ft) b L p' ft := RT_M hR
  by_cases d : p' < L ∧ isDg (b p') = true
  · rw [if_pos d, isCounted_ok R1 (by omega) (by omega), Option.bind_some, hc _ _ R1, rtM_rtM]
    have R3 : RT (mu (rtM r (edg b L p') ft) 113 35 (w32 (rtM r (edg b L p') ft 113 35 + 1))) b L (edg b L p') ft := RT_i R1 (by omega) (by omega) (by omega)
    rw [entry_bad (by rw [R3.2.2.1]; exact hf), Option.bind_some]
    exact ⟨_, rfl, FrH.trans (FrH_rt hR) ⟨fun a x => mu_rw x, fun i x y => mu_ne (by omega)⟩, edg b L p', by omega, g1, R3⟩
  · rw [if_neg d]
    by_cases g : idw b p' (el b L p') vws 0 = -1
    · rw [if_pos g]
      exact ⟨_, rfl, FrH_rt hR, p', by omega, q1, R2⟩
    · rw [if_neg g, isCounted_ok R2 (by omega) (by omega), Option.bind_some, hc _ _ R2, rtM_rtM]
      have R3 : RT (mu (rtM r p' ft) 113 35 (w32 (rtM r p' ft 113 35 + 1))) b L p' ft := RT_i R2 (by omega) (by omega) (by omega)
      have R4 := RT_M (p' := el b L p') (ft' := ft) R3
      rw [R3.2.1, w32_id (x := p' + (el b L p' - p')) (by omega) (by omega), show p' + (el b L p' - p') = el b L p' by omega, rtM_mu R3, entry_bad (by rw [R4.2.2.1]; exact hf), Option.bind_some]
      exact ⟨_, rfl, FrH.trans (FrH.trans (FrH_rt hR) ⟨fun a x => mu_rw x, fun i x y => mu_ne (by omega)⟩) (FrH_rt R3), el b L p', by omega, e1, R4⟩
theorem value_ok {N : Nat} {r : iv_M} {b : Int → Int} {L p sl dep cnt : Int} {B : List (Int × Int)} {O : List Int} (hN : 1000 ≤ N) (hR : RT r b L p 0) (h : RK r sl B O dep cnt) (hT : TX b L) (p0 : 0 ≤ p) (p1 : p ≤ L) (s0 : 0 ≤ sl) (s1 : sl < 6) (hl : B.length < 300) (c0 : 0 ≤ cnt) (c1 : cnt ≤ 60) : ∃ r' pe, FX12_value N r 113 = some r' ∧ FrR sl r r' ∧ (bl b L p ≤ pe ∧ pe ≤ L) ∧ RT r' b L pe (cFt (vFt b L (bl b L p)) cnt (bl b L p)) ∧ (cFt (vFt b L (bl b L p)) cnt (bl b L p) = 0 → pe = vEnd b L (bl b L p) ∧ bl b L p < pe ∧ RK r' sl (B ++ [vEnt b L (bl b L p)]) O dep (cnt + 1) ∧ cnt < 60 ∧ ∀ ty, tye (vEnt b L (bl b L p)) ty = some (false :: ty)) := by
  have hL := hT.2.1
  obtain ⟨p', hp'⟩ : ∃ p', p' = bl b L p := ⟨_, rfl⟩
  have q0 : p ≤ p' := by rw [hp']; exact rnn_ge
  have q1 : p' ≤ L := by rw [hp']; exact rnn_le p1
  have h35 : r 113 35 = cnt := h.2.2.2.2.1
  have e0 : p' ≤ el b L p' := rnn_ge
  have e1 : el b L p' ≤ L := rnn_le q1
  have g0 : p' ≤ edg b L p' := rnn_ge
  have g1 : edg b L p' ≤ L := rnn_le q1
  rw [value_gen hN hR h.2.2.2.2.2 hT p0 (by omega), ← hp']
  have hcc : ∀ ft : Int, (if cnt = 60 then ffl ft p' 3 else ft) = cFt ft cnt p' := fun ft => by
    unfold cFt
    by_cases u : cnt = 60
    · rw [if_pos u, if_neg (by omega)]
    · rw [if_neg u, if_pos (by omega)]
  by_cases d : p' < L ∧ isDg (b p') = true
  · have nl : ¬ (97 ≤ sg b L p' ∧ sg b L p' ≤ 122) := fun z => by
      have := (sg_dg hT (by omega)).mpr d; omega
    have ve : vEnd b L p' = edg b L p' := by unfold vEnd; rw [if_neg nl]
    have vn : vEnt b L p' = (0, nmv b L p') := by unfold vEnt; rw [if_neg nl]
    have nv := nmv_lt (b := b) (L := L) (p := p')
    have vf : vFt b L p' = dft b L p' 0 := by
      unfold vFt; rw [if_neg nl]
      unfold nft dft
      by_cases z : edg b L p' = p'
      · rw [if_pos z, if_pos z]
      · rw [if_neg z, if_neg z]
        by_cases z2 : 5 < edg b L p' - p'
        · rw [if_pos (Or.inl z2), if_pos z2]
        · rw [if_neg z2, if_neg (by omega)]
    have gs : p' < edg b L p' := by
      have : edg b L p' = edg b L (p' + 1) := rnn_go d.1 d.2
      have h2 : p' + 1 ≤ edg b L (p' + 1) := rnn_ge
      omega
    have R1 : RT (rtM r (edg b L p') (dft b L p' 0)) b L (edg b L p') (dft b L p' 0) := RT_M hR
    have i35 : rtM r (edg b L p') (dft b L p' 0) 113 35 = cnt := by rw [rtM_i (by omega) (by omega)]; exact h35
    rw [if_pos d, isCounted_ok R1 (by omega) (by omega), i35, hcc, ← vf, Option.bind_some, rtM_rtM, w32_id (by omega) (by omega), ve, vn]
    obtain ⟨F, hF⟩ : ∃ F, F = cFt (vFt b L p') cnt p' := ⟨_, rfl⟩
    rw [← hF]
    have R2 : RT (mu (rtM r (edg b L p') F) 113 35 (cnt + 1)) b L (edg b L p') F := RT_i (RT_M hR) (by omega) (by omega) (by omega)
    have K2 : RK (mu (rtM r (edg b L p') F) 113 35 (cnt + 1)) sl B O dep (cnt + 1) := RK_cnt (RK_rt h)
    have f2 : FrR sl r (mu (rtM r (edg b L p') F) 113 35 (cnt + 1)) := FrR_rt.trans (FrR_m (by omega))
    by_cases z : F = 0
    · rw [z] at R2 K2 f2 ⊢
      obtain ⟨r', x1, x2, x3, x4⟩ := entry_ok (N := N) (k := 0) (n := nmv b L p') R2 K2 s0 s1 hl
      refine ⟨r', edg b L p', by rw [x1, Option.bind_some], f2.trans x4, ⟨g0, g1⟩, x2, fun _ => ⟨rfl, gs, x3, ?_, fun ty => ?_⟩⟩
      · by_cases u : cnt < 60
        · exact u
        · rw [z] at hF; unfold cFt at hF; rw [if_neg u] at hF
          exfalso
          by_cases v : vFt b L p' = 0
          · rw [v] at hF; exact ffl_ne (by omega) (by omega) hF.symm
          · rw [ffl_bad v] at hF; exact v hF.symm
      · unfold tye; rw [if_pos rfl, if_pos (show 0 ≤ nmv b L p' ∧ nmv b L p' ≤ 99999 from nv)]
    · rw [entry_bad (by rw [R2.2.2.1]; exact z), Option.bind_some]
      exact ⟨_, edg b L p', rfl, f2, ⟨g0, g1⟩, R2, fun u => absurd u z⟩
  rw [if_neg d]
  by_cases g : idw b p' (el b L p') vws 0 = -1
  · have vf : vFt b L p' = ffl 0 p' 0 := by
      unfold vFt
      by_cases u : 97 ≤ sg b L p' ∧ sg b L p' ≤ 122
      · rw [if_pos u]; unfold wft; rw [if_pos g]
      · rw [if_neg u]; unfold nft
        have : edg b L p' = p' := rnn_stop d
        rw [if_pos this]
    have fne : ffl 0 p' 0 ≠ 0 := ffl_ne (by omega) (by omega)
    have cf : cFt (vFt b L p') cnt p' = ffl 0 p' 0 := by
      unfold cFt; rw [vf]
      by_cases u : cnt < 60
      · rw [if_pos u]
      · rw [if_neg u, ffl_bad fne]
    rw [if_pos g, cf]
    exact ⟨_, p', rfl, FrR_rt, ⟨Int.le_refl _, q1⟩, RT_M hR, fun u => absurd u fne⟩
  · have lt : p' < L ∧ isLt (b p') = true := by
      by_cases u : p' < L ∧ isLt (b p') = true
      · exact u
      · exact absurd (idw_none u) g
    have nl : 97 ≤ sg b L p' ∧ sg b L p' ≤ 122 := (sg_lt hT (by omega)).mpr lt
    have ve : vEnd b L p' = el b L p' := by unfold vEnd; rw [if_pos nl]
    have vn : vEnt b L p' = (1, idw b p' (el b L p') vws 0) := by unfold vEnt; rw [if_pos nl]
    have vf : vFt b L p' = 0 := by unfold vFt; rw [if_pos nl]; unfold wft; rw [if_neg g]
    have es : p' < el b L p' := by
      have : el b L p' = el b L (p' + 1) := rnn_go lt.1 lt.2
      have h2 : p' + 1 ≤ el b L (p' + 1) := rnn_ge
      omega
    have ig := idw_ge (b := b) (p := p') (e := el b L p') vws 0 (by omega)
    have l13 : ((vws.length : Nat) : Int) = 13 := by decide
    have R1 : RT (rtM r p' 0) b L p' 0 := RT_M hR
    have i35 : rtM r p' 0 113 35 = cnt := by rw [rtM_i (by omega) (by omega)]; exact h35
    rw [if_neg g, isCounted_ok R1 (by omega) (by omega), i35, hcc, Option.bind_some, rtM_rtM, w32_id (by omega) (by omega), ve, vn, vf]
    obtain ⟨F, hF⟩ : ∃ F, F = cFt 0 cnt p' := ⟨_, rfl⟩
    rw [← hF]
    have R2 : RT (mu (rtM r p' F) 113 35 (cnt + 1)) b L p' F := RT_i (RT_M hR) (by omega) (by omega) (by omega)
    have K2 : RK (mu (rtM r p' F) 113 35 (cnt + 1)) sl B O dep (cnt + 1) := RK_cnt (RK_rt h)
    have f2 : FrR sl r (mu (rtM r p' F) 113 35 (cnt + 1)) := FrR_rt.trans (FrR_m (by omega))
    have R3 := RT_M (p' := el b L p') (ft' := F) R2
    have K3 : RK (rtM (mu (rtM r p' F) 113 35 (cnt + 1)) (el b L p') F) sl B O dep (cnt + 1) := RK_rt K2
    rw [R2.2.1, w32_id (by omega) (by omega), show p' + (el b L p' - p') = el b L p' by omega, rtM_mu R2]
    by_cases z : F = 0
    · rw [z] at R3 K3 f2 ⊢
      obtain ⟨r', x1, x2, x3, x4⟩ := entry_ok (N := N) (k := 1) (n := idw b p' (el b L p') vws 0) R3 K3 s0 s1 hl
      refine ⟨r', el b L p', by rw [x1, Option.bind_some], (f2.trans FrR_rt).trans x4, ⟨e0, e1⟩, x2, fun _ => ⟨rfl, es, x3, ?_, fun ty => ?_⟩⟩
      · by_cases u : cnt < 60
        · exact u
        · rw [z] at hF; unfold cFt at hF; rw [if_neg u] at hF
          exact absurd hF.symm (ffl_ne (by omega) (by omega))
      · unfold tye; rw [if_neg (show ¬ (1 : Int) = 0 by decide), if_pos rfl, if_pos (show 0 ≤ idw b p' (el b L p') vws 0 ∧ idw b p' (el b L p') vws 0 < 13 by omega)]
    · rw [entry_bad (by rw [R3.2.2.1]; exact z), Option.bind_some]
      exact ⟨_, el b L p', rfl, f2.trans FrR_rt, ⟨e0, e1⟩, R3, fun u => absurd u z⟩
