-- WALKS THAT MAY BE, in their order: the class
theorem wc1 {r o : Int} (r0 : 0 ≤ r) (r1 : r < 16) (o0 : 0 ≤ o) (o1 : o < 16) : bOr (bOr 256 (sl32 r 4)) o = 256 * 1 + 16 * r + o := by
  have e : sl32 1 8 = 256 := by decide
  have := wk_code (k := 1) (r := r) (o := o) (by omega) (by omega) r0 r1 o0 o1
  rw [e] at this; exact this
theorem wc2 {r o : Int} (r0 : 0 ≤ r) (r1 : r < 16) (o0 : 0 ≤ o) (o1 : o < 16) : bOr (bOr 512 (sl32 r 4)) o = 256 * 2 + 16 * r + o := by
  have e : sl32 2 8 = 512 := by decide
  have := wk_code (k := 2) (r := r) (o := o) (by omega) (by omega) r0 r1 o0 o1
  rw [e] at this; exact this
theorem bOr_0 {a : Nat} (ha : a < 9223372036854775808) : bOr (a : Int) 0 = a := by
  have := bOr_nat (a := a) (b := 0) ha (by omega)
  rw [Nat.or_zero] at this; exact this
theorem wc3 {r : Int} (r0 : 0 ≤ r) (r1 : r < 16) : bOr 768 (sl32 r 4) = 256 * 3 + 16 * r + 0 := by
  obtain ⟨r, rfl⟩ := Int.eq_ofNat_of_zero_le r0
  have h := sl32_lit (x := (r : Int)) (k := 4) (by decide) (by omega) (by omega)
  have e : sl32 (r : Int) 4 = ((16 * r : Nat) : Int) := h.trans (by omega)
  rw [e]
  have := bOr_low (a := 3) (b := 16 * r) 8 (by omega) (by omega) (by decide)
  exact this.trans (by omega)
def AL (s : iv_M) (qa : Nat) (l : List Int) : Prop := ∀ i : Nat, i < l.length → s qa i = wcd (l.getD i 0)
theorem AL_nil {s : iv_M} {qa : Nat} : AL s qa [] := fun i h => by simp at h
theorem AL_add {s : iv_M} {qa : Nat} {l : List Int} {c : Int} (h : AL s qa l) : AL (mu s qa l.length (wcd c)) qa (l ++ [c]) := by
  intro i hi
  rw [List.length_append] at hi
  by_cases e : i = l.length
  · subst e
    rw [mu_eq]
    have := gd_at (l := l) (t := []) (k := l.length) (d := 0) (x := c) rfl
    rw [List.append_nil] at this
    rw [this]
  · have hi : i < l.length := by simp at hi; omega
    rw [mu_ne (by omega), h i hi, List.getD_eq_getElem?_getD, List.getD_eq_getElem?_getD, List.getElem?_append_left hi]
theorem AL_ext {s s' : iv_M} {qa : Nat} {l : List Int} (h : s' qa = s qa) (hA : AL s qa l) : AL s' qa l := fun i hi => by rw [h]; exact hA i hi
def stc : Nat → Nat
  | 0 => 0
  | n + 1 => stc n + if cK n = 2 → cR n < cO n then 1 else 0
theorem stc_204 : stc 204 = 126 := by decide +kernel
theorem stc_mono (n : Nat) : ∀ m : Nat, stc n ≤ stc (n + m)
  | 0 => Nat.le_refl _
  | m + 1 => by
    have := stc_mono n m
    show stc n ≤ stc (n + m) + _
    omega
theorem okl_stc (ru : Option (List (List (Int × Int)))) (B : iv_M) : ∀ n, (okl ru B n).length ≤ stc n
  | 0 => by simp [okl]
  | n + 1 => by
    have := okl_stc ru B n
    show (if okc ru B n then okl ru B n ++ [(n : Int)] else okl ru B n).length ≤ stc n + _
    by_cases e : okc ru B n
    · rw [if_pos e, if_pos (fun z => (e.1.2 z).2), List.length_append]; simp; omega
    · rw [if_neg e]; omega
theorem okl_lt {ru : Option (List (List (Int × Int)))} {B : iv_M} {n : Nat} (hn : n < 204) (h : thr B n) : (okl ru B n).length < 126 := by
  have h1 := okl_stc ru B n
  have h2 := stc_mono (n + 1) (203 - n)
  rw [show n + 1 + (203 - n) = 204 by omega, stc_204] at h2
  have h3 : stc (n + 1) = stc n + 1 := by
    show stc n + _ = _
    rw [if_pos (fun z => (h.2 z).2)]
  omega
theorem okl_skip {ru : Option (List (List (Int × Int)))} {B : iv_M} {n : Nat} : ∀ m : Nat, (∀ c : Int, n ≤ c → c < n + m → ¬ thr B c) → okl ru B (n + m) = okl ru B n
  | 0, _ => rfl
  | m + 1, h => by
    show (if okc ru B ((n + m : Nat) : Int) then okl ru B (n + m) ++ [((n + m : Nat) : Int)] else okl ru B (n + m)) = _
    rw [if_neg (fun z => h ((n + m : Nat) : Int) (by omega) (by omega) z.1)]
    exact okl_skip m (fun c c0 c1 => h c c0 (by omega))
def Sca (ql qf qa : Nat) (s s' : iv_M) : Prop := (∀ a, (a < qf ∨ qf + 5 < a) → a ≠ ql → a ≠ ql + 1 → a ≠ qa → s' a = s a) ∧ ∀ i, i ≠ 6 → s' ql i = s ql i
theorem Sca.refl {ql qf qa : Nat} {s : iv_M} : Sca ql qf qa s s := ⟨fun _ _ _ _ _ => rfl, fun _ _ => rfl⟩
theorem Sca.trans {ql qf qa : Nat} {s s1 s2 : iv_M} (h : Sca ql qf qa s s1) (h2 : Sca ql qf qa s1 s2) : Sca ql qf qa s s2 := ⟨fun a x y z w => (h2.1 a x y z w).trans (h.1 a x y z w), fun i x => (h2.2 i x).trans (h.2 i x)⟩
/-- where the row of walks lies -/
def Sq (ql qh qf qa : Nat) : Prop := (qa < qf ∨ qf + 6 < qa) ∧ qa ≠ ql ∧ qa ≠ ql + 1 ∧ qa ≠ qh ∧ qa ≠ qh + 9 ∧ ¬ (3 ≤ qa ∧ qa ≤ 8) ∧ ¬ (140 ≤ qa ∧ qa ≤ 144) ∧ (sh qa).2 = 126
def LI (ql qh qf qa : Nat) (B : iv_M) (ru : Option (List (List (Int × Int)))) (s0 : iv_M) (c : Nat) (s : iv_M) (n : Int) : Prop := LW s ql qh qf B ru ∧ AL s qa (okl ru B c) ∧ n = ((okl ru B c).length : Int) ∧ Sca ql qf qa s0 s
def LH (ql qh qf qa : Nat) (B : iv_M) : Prop := Sp ql qh qf ∧ TF qf ∧ (sh (qf + 1)).2 = 12 ∧ (sh (ql + 1)).2 = 64 ∧ Wf B ∧ 0 ≤ B 114 3 ∧ B 114 3 ≤ 6 ∧ Sq ql qh qf qa
theorem brk_step {N ql qh qf qa c : Nat} {B s0 s : iv_M} {ru : Option (List (List (Int × Int)))} {n : Int} (hN : 1000 ≤ N) (hH : LH ql qh qf qa B) (hI : LI ql qh qf qa B ru s0 c s n) (hc : c < 204) (ht : thr B c) : ∃ v s1, FX3_broken N s ql (wcd c) = some (v, s1) ∧ ((v = 0 ∧ n < 126 ∧ 0 ≤ n ∧ LI ql qh qf qa B ru s0 (c + 1) (mu s1 qa n (wcd c)) (n + 1)) ∨ (v ≠ 0 ∧ 0 ≤ n ∧ n ≤ 126 ∧ LI ql qh qf qa B ru s0 (c + 1) s1 n)) := by
  obtain ⟨hS, hT, hT1, hTl, hW, p0, p1, q1, q2, q3, q4, q5, q6, q7, q8⟩ := hH
  obtain ⟨i1, i2, i3, i4⟩ := hI
  obtain ⟨s1, a1, a2, a3⟩ := FX3_broken_ok (N := N) hN hS hT hT1 hTl hW i1 (thr_isW (c := (c : Int)) (by omega) (by omega) ht) p0 p1
  have hlt := okl_lt (ru := ru) hc ht
  have hsc : Sca ql qf qa s s1 := ⟨fun a x y z w => a3.1 a x y z, a3.2⟩
  have hqa : s1 qa = s qa := a3.1 qa (by omega) q2 q3
  have hst : okl ru B (c + 1) = if okc ru B c then okl ru B c ++ [(c : Int)] else okl ru B c := rfl
  refine ⟨lwf ru B (cK c) (cR c) (cO c), s1, a1, ?_⟩
  by_cases e : lwf ru B (cK c) (cR c) (cO c) = 0
  · left
    rw [if_pos ⟨ht, e⟩] at hst
    refine ⟨e, by omega, by omega, ⟨?_, ?_, ?_⟩, ?_, ?_, i4.trans (hsc.trans ⟨fun a x y z w => mu_rw w, fun i x => mu_ne (by omega)⟩)⟩
    · exact LR_ext (fun i x => mu_ne (by omega)) (mu_rw (by omega)) (mu_rw (by omega)) (fun a ha => mu_rw (by omega)) a2.1
    · exact FRc_ext (fun a x y => mu_rw (by omega)) a2.2.1
    · exact FP_ext (mu_rw (by omega)) a2.2.2
    · rw [hst, i3]; exact AL_add (AL_ext hqa i2)
    · rw [hst, i3, List.length_append]; rfl
  · right
    rw [if_neg (fun z => e z.2)] at hst
    exact ⟨e, by omega, by omega, a2, by rw [hst]; exact AL_ext hqa i2, by rw [hst]; exact i3, i4.trans hsc⟩
theorem LI_cast {ql qh qf qa : Nat} {B s0 s : iv_M} {ru : Option (List (List (Int × Int)))} {n : Int} {c c' : Nat} (h : LI ql qh qf qa B ru s0 c s n) (e : okl ru B c' = okl ru B c) : LI ql qh qf qa B ru s0 c' s n := by
  obtain ⟨i1, i2, i3, i4⟩ := h
  exact ⟨i1, by rw [e]; exact i2, by rw [e]; exact i3, i4⟩
theorem wcd_1 {r o : Int} (r0 : 0 ≤ r) (r1 : r < 12) (o0 : 0 ≤ o) (o1 : o < 4) : wcd (4 * r + o) = 256 * 1 + 16 * r + o := by
  unfold wcd cK cR cO; rw [if_pos (by omega), if_pos (by omega), if_pos (by omega)]; omega
theorem wcd_2 {r o : Int} (r0 : 0 ≤ r) (r1 : r < 12) (o0 : 0 ≤ o) (o1 : o < 12) : wcd (48 + 12 * r + o) = 256 * 2 + 16 * r + o := by
  unfold wcd cK cR cO; rw [if_neg (by omega), if_pos (by omega), if_neg (by omega), if_pos (by omega), if_neg (by omega), if_pos (by omega)]; omega
theorem wcd_3 {r : Int} (r0 : 0 ≤ r) (r1 : r < 12) : wcd (192 + r) = 256 * 3 + 16 * r + 0 := by
  unfold wcd cK cR cO; rw [if_neg (by omega), if_neg (by omega), if_neg (by omega), if_neg (by omega), if_neg (by omega), if_neg (by omega)]; omega
theorem thr_1 {B : iv_M} {r o : Int} (r0 : 0 ≤ r) (r1 : r < 12) (o0 : 0 ≤ o) (o1 : o < 4) : thr B (4 * r + o) ↔ r < B 114 2 := by
  unfold thr cK cR cO; rw [if_pos (by omega), if_pos (by omega), if_pos (by omega)]; omega
theorem thr_2 {B : iv_M} {r o : Int} (r0 : 0 ≤ r) (r1 : r < 12) (o0 : 0 ≤ o) (o1 : o < 12) : thr B (48 + 12 * r + o) ↔ r < B 114 2 ∧ o < B 114 2 ∧ r < o := by
  unfold thr cK cR cO; rw [if_neg (by omega), if_pos (by omega), if_neg (by omega), if_pos (by omega), if_neg (by omega), if_pos (by omega), show (48 + 12 * r + o - 48) / 12 = r by omega, show (48 + 12 * r + o - 48) % 12 = o by omega]
  exact ⟨fun h => ⟨h.1, h.2 rfl⟩, fun h => ⟨h.1, fun _ => h.2⟩⟩
theorem thr_3 {B : iv_M} {r : Int} (r0 : 0 ≤ r) (r1 : r < 12) : thr B (192 + r) ↔ r < B 114 2 := by
  unfold thr cK cR cO; rw [if_neg (by omega), if_neg (by omega), if_neg (by omega), if_neg (by omega), if_neg (by omega), if_neg (by omega)]; omega
theorem FX3_list_1 {N ql qh qf qa : Nat} {B s0 : iv_M} {ru : Option (List (List (Int × Int)))} {r : Int} {kx : iv_M → Int → Option (Int × iv_M)} (hN : 1000 ≤ N) (hH : LH ql qh qf qa B) (r0 : 0 ≤ r) (r1 : r < B 114 2) (r2 : r < 12) {s : iv_M} {n : Int} (hI : LI ql qh qf qa B ru s0 (4 * r).toNat s n) : ∃ s' n', LI ql qh qf qa B ru s0 (4 * (r + 1)).toNat s' n' ∧ FX3_list_l33 N ql qa (B 114 2) r kx N s n 0 = kx s' n' := by
  obtain ⟨y, y1, y2⟩ := loop_up (L := fun m (x : iv_M × Int) i => FX3_list_l33 N ql qa (B 114 2) r kx m x.1 x.2 i) (k := fun x => kx x.1 x.2) (hi := 4) (fun d x => LI ql qh qf qa B ru s0 (4 * r + d).toNat x.1 x.2 ∧ 0 ≤ d) (fun m x hx => by
      show FX3_list_l33 N ql qa (B 114 2) r kx (m + 1) x.1 x.2 4 = _
      rw [FX3_list_l33, if_pos (by omega)]) (fun m d x hx hd => by
      obtain ⟨x1, d0⟩ := hx
      have hc : (((4 * r + d).toNat : Nat) : Int) = 4 * r + d := by omega
      obtain ⟨v, s1, b1, b2⟩ := brk_step (N := N) hN hH x1 (by omega) (by rw [hc]; exact (thr_1 r0 r2 d0 hd).mpr r1)
      have q8 := hH.2.2.2.2.2.2.2.2.2.2.2.2.2.2
      rw [hc, wcd_1 r0 r2 d0 hd] at b1 b2
      rw [show (4 * r + d).toNat + 1 = (4 * r + (d + 1)).toNat by omega] at b2
      rcases b2 with ⟨v0, n1, n0, b3⟩ | ⟨v0, n0, n1, b3⟩
      · refine ⟨(mu s1 qa x.2 (256 * 1 + 16 * r + d), x.2 + 1), ?_, b3, by omega⟩
        show FX3_list_l33 N ql qa (B 114 2) r kx (m + 1) x.1 x.2 d = FX3_list_l33 N ql qa (B 114 2) r kx m (mu s1 qa x.2 (256 * 1 + 16 * r + d)) (x.2 + 1) (d + 1)
        rw [FX3_list_l33, if_neg (by omega), wc1 r0 (by omega) d0 (by omega), b1, Option.bind_some]
        dsimp only
        unfold FX3_list_b75
        rw [if_pos v0, q8, if_neg (by omega), wr_ok n0 (by omega), Option.bind_some, w32_id (by omega) (by omega), w32_id (by omega) (by omega)]
      · refine ⟨(s1, x.2), ?_, b3, by omega⟩
        show FX3_list_l33 N ql qa (B 114 2) r kx (m + 1) x.1 x.2 d = FX3_list_l33 N ql qa (B 114 2) r kx m s1 x.2 (d + 1)
        rw [FX3_list_l33, if_neg (by omega), wc1 r0 (by omega) d0 (by omega), b1, Option.bind_some]
        dsimp only
        unfold FX3_list_b75
        rw [if_neg v0, w32_id (by omega) (by omega)]) N 0 (s, n) ⟨by rw [Int.add_zero]; exact hI, by omega⟩ (by omega) (by omega)
  exact ⟨y.1, y.2, by rw [show 4 * (r + 1) = 4 * r + 4 by omega]; exact y1.1, y2⟩
theorem FX3_list_2 {N ql qh qf qa : Nat} {B s0 : iv_M} {ru : Option (List (List (Int × Int)))} {r : Int} {kx : iv_M → Int → Option (Int × iv_M)} (hN : 1000 ≤ N) (hH : LH ql qh qf qa B) (r0 : 0 ≤ r) (r1 : r < B 114 2) (hB : B 114 2 ≤ 12) {s : iv_M} {n : Int} (hI : LI ql qh qf qa B ru s0 (48 + 12 * r).toNat s n) : ∃ s' n', LI ql qh qf qa B ru s0 (48 + 12 * (r + 1)).toNat s' n' ∧ FX3_list_l102 N ql qa (B 114 2) r kx N s n (r + 1) = kx s' n' := by
  have hI1 : LI ql qh qf qa B ru s0 (48 + 12 * r + (r + 1)).toNat s n := LI_cast hI (by
    have := okl_skip (ru := ru) (B := B) (n := (48 + 12 * r).toNat) (r + 1).toNat (fun c c0 c1 ht => by
      have := (thr_2 (B := B) (r := r) (o := c - 48 - 12 * r) r0 (by omega) (by omega) (by omega)).mp (by rw [show 48 + 12 * r + (c - 48 - 12 * r) = c by omega]; exact ht)
      omega)
    rw [show (48 + 12 * r).toNat + (r + 1).toNat = (48 + 12 * r + (r + 1)).toNat by omega] at this; exact this)
  obtain ⟨y, y1, y2⟩ := loop_up (L := fun m (x : iv_M × Int) i => FX3_list_l102 N ql qa (B 114 2) r kx m x.1 x.2 i) (k := fun x => kx x.1 x.2) (hi := B 114 2) (fun d x => LI ql qh qf qa B ru s0 (48 + 12 * r + d).toNat x.1 x.2 ∧ r + 1 ≤ d) (fun m x hx => by
      show FX3_list_l102 N ql qa (B 114 2) r kx (m + 1) x.1 x.2 (B 114 2) = _
      rw [FX3_list_l102, if_pos (by omega)]) (fun m d x hx hd => by
      obtain ⟨x1, d0⟩ := hx
      have hc : (((48 + 12 * r + d).toNat : Nat) : Int) = 48 + 12 * r + d := by omega
      obtain ⟨v, s1, b1, b2⟩ := brk_step (N := N) hN hH x1 (by omega) (by rw [hc]; exact (thr_2 r0 (by omega) (by omega) (by omega)).mpr ⟨r1, hd, by omega⟩)
      have q8 := hH.2.2.2.2.2.2.2.2.2.2.2.2.2.2
      rw [hc, wcd_2 r0 (by omega) (by omega) (by omega)] at b1 b2
      rw [show (48 + 12 * r + d).toNat + 1 = (48 + 12 * r + (d + 1)).toNat by omega] at b2
      rcases b2 with ⟨v0, n1, n0, b3⟩ | ⟨v0, n0, n1, b3⟩
      · refine ⟨(mu s1 qa x.2 (256 * 2 + 16 * r + d), x.2 + 1), ?_, b3, by omega⟩
        show FX3_list_l102 N ql qa (B 114 2) r kx (m + 1) x.1 x.2 d = FX3_list_l102 N ql qa (B 114 2) r kx m (mu s1 qa x.2 (256 * 2 + 16 * r + d)) (x.2 + 1) (d + 1)
        rw [FX3_list_l102, if_neg (by omega), wc2 r0 (by omega) (by omega) (by omega), b1, Option.bind_some]
        dsimp only
        unfold FX3_list_b144
        rw [if_pos v0, q8, if_neg (by omega), wr_ok n0 (by omega), Option.bind_some, w32_id (by omega) (by omega), w32_id (by omega) (by omega)]
      · refine ⟨(s1, x.2), ?_, b3, by omega⟩
        show FX3_list_l102 N ql qa (B 114 2) r kx (m + 1) x.1 x.2 d = FX3_list_l102 N ql qa (B 114 2) r kx m s1 x.2 (d + 1)
        rw [FX3_list_l102, if_neg (by omega), wc2 r0 (by omega) (by omega) (by omega), b1, Option.bind_some]
        dsimp only
        unfold FX3_list_b144
        rw [if_neg v0, w32_id (by omega) (by omega)]) N (r + 1) (s, n) ⟨hI1, by omega⟩ (by omega) (by omega)
  refine ⟨y.1, y.2, LI_cast y1.1 ?_, y2⟩
  have := okl_skip (ru := ru) (B := B) (n := (48 + 12 * r + B 114 2).toNat) (12 - B 114 2).toNat (fun c c0 c1 ht => by
    have := (thr_2 (B := B) (r := r) (o := c - 48 - 12 * r) r0 (by omega) (by omega) (by omega)).mp (by rw [show 48 + 12 * r + (c - 48 - 12 * r) = c by omega]; exact ht)
    omega)
  rw [show (48 + 12 * r + B 114 2).toNat + (12 - B 114 2).toNat = (48 + 12 * (r + 1)).toNat by omega] at this
  exact this
theorem FX3_list_ok {N ql qh qf qa : Nat} {B s : iv_M} {ru : Option (List (List (Int × Int)))} (hN : 1000 ≤ N) (hH : LH ql qh qf qa B) (hL : LW s ql qh qf B ru) : ∃ s', FX3_list N s ql qa = some (((okl ru B 204).length : Int), s') ∧ LW s' ql qh qf B ru ∧ AL s' qa (okl ru B 204) ∧ Sca ql qf qa s s' := by
  have hr0 := hH.2.2.2.2.1.1.2.2.2.2.1
  have hr2 := hH.2.2.2.2.1.1.2.2.2.2.2.1
  have q8 := hH.2.2.2.2.2.2.2.2.2.2.2.2.2.2
  have hl1 : s ql 1 = qf := hL.1.2.1
  have hn1 : (s ql 1).toNat = qf := by rw [hl1]; rfl
  unfold FX3_list FX3_list_b18
  rw [if_neg (by omega), if_neg (by omega), hn1, hL.2.1.2.2.1]
  obtain ⟨y, ⟨y1, _⟩, y2⟩ := loop_up (L := fun m (x : iv_M × Int) i => FX3_list_l24 N ql qa (B 114 2) (fun (s_722 : iv_M) (x723_3 : Int) => (FX3_list_l90 N ql qa (B 114 2) (fun (s_724 : iv_M) (x725_3 : Int) => (FX3_list_l159 N ql qa (B 114 2) (fun (s_726 : iv_M) (x727_3 : Int) => (some (x727_3, s_726))) N s_724 x725_3 0)) N s_722 x723_3 0)) m x.1 x.2 i) (k := fun x => (FX3_list_l90 N ql qa (B 114 2) (fun (s_724 : iv_M) (x725_3 : Int) => (FX3_list_l159 N ql qa (B 114 2) (fun (s_726 : iv_M) (x727_3 : Int) => (some (x727_3, s_726))) N s_724 x725_3 0)) N x.1 x.2 0)) (hi := B 114 2) (fun r x => LI ql qh qf qa B ru s (4 * r).toNat x.1 x.2 ∧ 0 ≤ r) (fun m x hx => by
      show FX3_list_l24 N ql qa (B 114 2) _ (m + 1) x.1 x.2 (B 114 2) = _
      rw [FX3_list_l24, if_pos (by omega)]) (fun m r x hx hr => by
      obtain ⟨x1, r0⟩ := hx
      obtain ⟨s', n', c1, c2⟩ := FX3_list_1 (N := N) (kx := fun (s_729 : iv_M) (x730_3 : Int) => (FX3_list_l24 N ql qa (B 114 2) (fun (s_722 : iv_M) (x723_3 : Int) => (FX3_list_l90 N ql qa (B 114 2) (fun (s_724 : iv_M) (x725_3 : Int) => (FX3_list_l159 N ql qa (B 114 2) (fun (s_726 : iv_M) (x727_3 : Int) => (some (x727_3, s_726))) N s_724 x725_3 0)) N s_722 x723_3 0)) m s_729 x730_3 (w32 (r + 1)))) hN hH r0 hr (by omega) x1
      refine ⟨(s', n'), ?_, c1, by omega⟩
      show FX3_list_l24 N ql qa (B 114 2) _ (m + 1) x.1 x.2 r = FX3_list_l24 N ql qa (B 114 2) _ m s' n' (r + 1)
      rw [FX3_list_l24, if_neg (by omega), c2, w32_id (by omega) (by omega)]) N 0 (s, 0) ⟨⟨hL, AL_nil, rfl, Sca.refl⟩, by omega⟩ hr0 (by omega)
  have y2 : FX3_list_l24 N ql qa (B 114 2) (fun (s_722 : iv_M) (x723_3 : Int) => (FX3_list_l90 N ql qa (B 114 2) (fun (s_724 : iv_M) (x725_3 : Int) => (FX3_list_l159 N ql qa (B 114 2) (fun (s_726 : iv_M) (x727_3 : Int) => (some (x727_3, s_726))) N s_724 x725_3 0)) N s_722 x723_3 0)) N s 0 0 = _ := y2
  rw [y2]
  have y1' : LI ql qh qf qa B ru s (48 + 12 * 0 : Int).toNat y.1 y.2 := LI_cast y1 (by
    have := okl_skip (ru := ru) (B := B) (n := (4 * B 114 2).toNat) (48 - 4 * B 114 2).toNat (fun c c0 c1 ht => by
      have := (thr_1 (B := B) (r := c / 4) (o := c % 4) (by omega) (by omega) (by omega) (by omega)).mp (by rw [show 4 * (c / 4) + c % 4 = c by omega]; exact ht)
      omega)
    rw [show (4 * B 114 2).toNat + (48 - 4 * B 114 2).toNat = 48 by omega] at this; exact this)
  obtain ⟨u, ⟨u1, _⟩, u2⟩ := loop_up (L := fun m (x : iv_M × Int) i => FX3_list_l90 N ql qa (B 114 2) (fun (s_724 : iv_M) (x725_3 : Int) => (FX3_list_l159 N ql qa (B 114 2) (fun (s_726 : iv_M) (x727_3 : Int) => (some (x727_3, s_726))) N s_724 x725_3 0)) m x.1 x.2 i) (k := fun x => (FX3_list_l159 N ql qa (B 114 2) (fun (s_726 : iv_M) (x727_3 : Int) => (some (x727_3, s_726))) N x.1 x.2 0)) (hi := B 114 2) (fun r x => LI ql qh qf qa B ru s (48 + 12 * r).toNat x.1 x.2 ∧ 0 ≤ r) (fun m x hx => by
      show FX3_list_l90 N ql qa (B 114 2) _ (m + 1) x.1 x.2 (B 114 2) = _
      rw [FX3_list_l90, if_pos (by omega)]) (fun m r x hx hr => by
      obtain ⟨x1, r0⟩ := hx
      obtain ⟨s', n', c1, c2⟩ := FX3_list_2 (N := N) (kx := fun (s_740 : iv_M) (x741_3 : Int) => (FX3_list_l90 N ql qa (B 114 2) (fun (s_724 : iv_M) (x725_3 : Int) => (FX3_list_l159 N ql qa (B 114 2) (fun (s_726 : iv_M) (x727_3 : Int) => (some (x727_3, s_726))) N s_724 x725_3 0)) m s_740 x741_3 (w32 (r + 1)))) hN hH r0 hr hr2 x1
      refine ⟨(s', n'), ?_, c1, by omega⟩
      show FX3_list_l90 N ql qa (B 114 2) _ (m + 1) x.1 x.2 r = FX3_list_l90 N ql qa (B 114 2) _ m s' n' (r + 1)
      rw [w32_id (by omega) (by omega)] at c2
      rw [FX3_list_l90, if_neg (by omega), w32_id (by omega) (by omega), c2]) N 0 y ⟨y1', by omega⟩ hr0 (by omega)
  have u2 : FX3_list_l90 N ql qa (B 114 2) (fun (s_724 : iv_M) (x725_3 : Int) => (FX3_list_l159 N ql qa (B 114 2) (fun (s_726 : iv_M) (x727_3 : Int) => (some (x727_3, s_726))) N s_724 x725_3 0)) N y.1 y.2 0 = _ := u2
  rw [u2]
  have u1' : LI ql qh qf qa B ru s (192 + 0 : Int).toNat u.1 u.2 := LI_cast u1 (by
    have := okl_skip (ru := ru) (B := B) (n := (48 + 12 * B 114 2).toNat) (144 - 12 * B 114 2).toNat (fun c c0 c1 ht => by
      have := (thr_2 (B := B) (r := (c - 48) / 12) (o := (c - 48) % 12) (by omega) (by omega) (by omega) (by omega)).mp (by rw [show 48 + 12 * ((c - 48) / 12) + (c - 48) % 12 = c by omega]; exact ht)
      omega)
    rw [show (48 + 12 * B 114 2).toNat + (144 - 12 * B 114 2).toNat = 192 by omega] at this; exact this)
  obtain ⟨w, ⟨w1, _⟩, w2⟩ := loop_up (L := fun m (x : iv_M × Int) i => FX3_list_l159 N ql qa (B 114 2) (fun (s_726 : iv_M) (x727_3 : Int) => (some (x727_3, s_726))) m x.1 x.2 i) (k := fun x => some (x.2, x.1)) (hi := B 114 2) (fun r x => LI ql qh qf qa B ru s (192 + r).toNat x.1 x.2 ∧ 0 ≤ r) (fun m x hx => by
      show FX3_list_l159 N ql qa (B 114 2) _ (m + 1) x.1 x.2 (B 114 2) = _
      rw [FX3_list_l159, if_pos (by omega)]) (fun m d x hx hd => by
      obtain ⟨x1, d0⟩ := hx
      have hc : (((192 + d).toNat : Nat) : Int) = 192 + d := by omega
      obtain ⟨v, s1, b1, b2⟩ := brk_step (N := N) hN hH x1 (by omega) (by rw [hc]; exact (thr_3 d0 (by omega)).mpr hd)
      rw [hc, wcd_3 d0 (by omega)] at b1 b2
      rw [show (192 + d).toNat + 1 = (192 + (d + 1)).toNat by omega] at b2
      rcases b2 with ⟨v0, n1, n0, b3⟩ | ⟨v0, n0, n1, b3⟩
      · refine ⟨(mu s1 qa x.2 (256 * 3 + 16 * d + 0), x.2 + 1), ?_, b3, by omega⟩
        show FX3_list_l159 N ql qa (B 114 2) _ (m + 1) x.1 x.2 d = FX3_list_l159 N ql qa (B 114 2) _ m (mu s1 qa x.2 (256 * 3 + 16 * d + 0)) (x.2 + 1) (d + 1)
        rw [FX3_list_l159, if_neg (by omega), wc3 d0 (by omega), b1, Option.bind_some]
        dsimp only
        unfold FX3_list_b198
        rw [if_pos v0, q8, if_neg (by omega), wr_ok n0 (by omega), Option.bind_some, w32_id (by omega) (by omega), w32_id (by omega) (by omega)]
      · refine ⟨(s1, x.2), ?_, b3, by omega⟩
        show FX3_list_l159 N ql qa (B 114 2) _ (m + 1) x.1 x.2 d = FX3_list_l159 N ql qa (B 114 2) _ m s1 x.2 (d + 1)
        rw [FX3_list_l159, if_neg (by omega), wc3 d0 (by omega), b1, Option.bind_some]
        dsimp only
        unfold FX3_list_b198
        rw [if_neg v0, w32_id (by omega) (by omega)]) N 0 u ⟨u1', by omega⟩ hr0 (by omega)
  have w2 : FX3_list_l159 N ql qa (B 114 2) (fun (s_726 : iv_M) (x727_3 : Int) => (some (x727_3, s_726))) N u.1 u.2 0 = some (w.2, w.1) := w2
  have w1' : LI ql qh qf qa B ru s 204 w.1 w.2 := LI_cast w1 (by
    have := okl_skip (ru := ru) (B := B) (n := (192 + B 114 2).toNat) (12 - B 114 2).toNat (fun c c0 c1 ht => by
      have := (thr_3 (B := B) (r := c - 192) (by omega) (by omega)).mp (by rw [show 192 + (c - 192) = c by omega]; exact ht)
      omega)
    rw [show (192 + B 114 2).toNat + (12 - B 114 2).toNat = 204 by omega] at this; exact this)
  exact ⟨w.1, by rw [w2, w1'.2.2.1], w1'.1, w1'.2.1, w1'.2.2.2⟩
