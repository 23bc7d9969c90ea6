-- WALKS THAT MAY BE, in their order: the reference
def cK (c : Int) : Int := if c < 48 then 1 else if c < 192 then 2 else 3
def cR (c : Int) : Int := if c < 48 then c / 4 else if c < 192 then (c - 48) / 12 else c - 192
def cO (c : Int) : Int := if c < 48 then c % 4 else if c < 192 then (c - 48) % 12 else 0
def wcd (c : Int) : Int := 256 * cK c + 16 * cR c + cO c
abbrev thr (B : iv_M) (c : Int) : Prop := cR c < B 114 2 ∧ (cK c = 2 → cO c < B 114 2 ∧ cR c < cO c)
abbrev okc (ru : Option (List (List (Int × Int)))) (B : iv_M) (c : Int) : Prop := thr B c ∧ lwf ru B (cK c) (cR c) (cO c) = 0
def okl (ru : Option (List (List (Int × Int)))) (B : iv_M) : Nat → List Int
  | 0 => []
  | c + 1 => if okc ru B c then okl ru B c ++ [(c : Int)] else okl ru B c
theorem cc_rng {c : Int} (c0 : 0 ≤ c) (c1 : c < 204) : 1 ≤ cK c ∧ cK c ≤ 3 ∧ 0 ≤ cR c ∧ cR c < 12 ∧ 0 ≤ cO c ∧ cO c < 12 ∧ (cK c = 1 → cO c < 4) ∧ (cK c = 3 → cO c = 0) := by
  unfold cK cR cO
  by_cases h1 : c < 48
  · simp only [if_pos h1]; omega
  · by_cases h2 : c < 192
    · simp only [if_neg h1, if_pos h2]; omega
    · simp [h1, h2]; omega
theorem thr_isW {B : iv_M} {c : Int} (c0 : 0 ≤ c) (c1 : c < 204) (h : thr B c) : isW B (cK c) (cR c) (cO c) := by
  obtain ⟨h1, h2, h3, h4, h5, h6, h7, h8⟩ := cc_rng c0 c1
  obtain ⟨t1, t2⟩ := h
  refine ⟨h3, t1, ?_⟩
  have : cK c = 1 ∨ cK c = 2 ∨ cK c = 3 := by omega
  rcases this with z | z | z
  · left; exact ⟨z, h5, h7 z⟩
  · right; left; have := t2 z; exact ⟨z, h5, this.1, by omega⟩
  · right; right; exact ⟨z, h8 z⟩
theorem lwf_cn {ru : Option (List (List (Int × Int)))} {B : iv_M} {k r o : Int} (h : lwf ru B k r o = 0) : cnI B k r o = 1 := by
  rcases cn_01 B k r o with z | z
  · unfold lwf at h
    split at h
    · omega
    · first | omega | (rw [if_pos z] at h; omega)
  · exact z
theorem eb_lwf {s s' : iv_M} {ru : Option (List (List (Int × Int)))} (h : Eb s s') : lwf ru s' = lwf ru s := by
  funext k r o
  unfold lwf
  rw [eb_cnI h, eb_mm h, eb_mm (eb_wlk h), eb_ask h, h 114 (by omega) (by omega), h 118 (by omega) (by omega)]
theorem eb_okc {s s' : iv_M} {ru : Option (List (List (Int × Int)))} (h : Eb s s') (c : Int) : okc ru s' c ↔ okc ru s c := by
  unfold okc thr; rw [eb_lwf h, h 114 (by omega) (by omega)]
theorem eb_okl {s s' : iv_M} {ru : Option (List (List (Int × Int)))} (h : Eb s s') : ∀ n, okl ru s' n = okl ru s n
  | 0 => rfl
  | n + 1 => by
    show (if okc ru s' n then okl ru s' n ++ [(n : Int)] else okl ru s' n) = (if okc ru s n then okl ru s n ++ [(n : Int)] else okl ru s n)
    rw [eb_okl h n]
    by_cases e : okc ru s n
    · rw [if_pos e, if_pos ((eb_okc h n).mpr e)]
    · rw [if_neg e, if_neg (fun z => e ((eb_okc h n).mp z))]
theorem kind_ok {N : Nat} {s : iv_M} {c : Int} (c0 : 0 ≤ c) (c1 : c < 204) : FX12_kindOf N s c = some (cK c) ∧ FX12_roomOf N s c = some (cR c) ∧ FX12_otherOf N s c = some (cO c) := by
  unfold FX12_kindOf FX12_roomOf FX12_otherOf FX12_kindOf_b22 FX12_roomOf_b37 FX12_otherOf_b30 cK cR cO
  rw [w32_id (x := c - 48) (by omega) (by omega), w32_id (x := c - 48 - 144) (by omega) (by omega)]
  by_cases h1 : c < 48
  · rw [if_neg (by omega), if_pos h1, if_neg (by omega), if_pos h1, if_neg (by omega), if_pos h1, dv32_pos c0 (by omega) (by omega), tmod_pos c0]
    exact ⟨rfl, rfl, rfl⟩
  · by_cases h2 : c < 192
    · rw [if_pos (by omega), if_neg (by omega), if_neg h1, if_pos h2, if_pos (by omega), if_neg (by omega), if_neg h1, if_pos h2, if_pos (by omega), if_neg (by omega), if_neg h1, if_pos h2, dv32_pos (by omega) (by omega) (by omega), tmod_pos (by omega)]
      exact ⟨rfl, rfl, rfl⟩
    · rw [if_pos (by omega), if_pos (by omega), if_neg h1, if_neg h2, if_pos (by omega), if_pos (by omega), if_neg h1, if_neg h2, if_pos (by omega), if_pos (by omega), if_neg h1, if_neg h2]
      exact ⟨rfl, by congr 1; omega, rfl⟩
/-- what a law is asked over -/
def RefL (s : iv_M) (ru : Option (List (List (Int × Int)))) : Prop := Wf s ∧ (0 ≤ s 114 3 ∧ s 114 3 ≤ 6) ∧ RUO s (s 114 12) ru
theorem RefL.scr {s s' : iv_M} {ru : Option (List (List (Int × Int)))} (h : RefL s ru) (hs : Scr s s') : RefL s' ru := by
  obtain ⟨h1, h2, h3⟩ := h
  refine ⟨eb_Wf hs.eb h1, by rw [hs.eb 114 (by omega) (by omega)]; exact h2, ?_⟩
  rw [hs.eb 114 (by omega) (by omega)]
  exact RUO_ext (fun a ha => hs.1 a (by omega) (by omega) (by omega)) h3
theorem FX12_mayBe_ok {N : Nat} {s : iv_M} {c : Int} {ru : Option (List (List (Int × Int)))} (hN : 1000 ≤ N) (hL : RefL s ru) (c0 : 0 ≤ c) (c1 : c < 204) : ∃ s', FX12_mayBe N s 113 c = some (if okc ru s c then 1 else 0, s') ∧ Scr s s' ∧ (okc ru s c → s' 113 48 = mm (wlk s (cK c) (cR c) (cO c))) := by
  obtain ⟨h1, h2, h3, h4, h5, h6, h7, h8⟩ := cc_rng c0 c1
  obtain ⟨k1, k2, k3⟩ := kind_ok (N := N) (s := s) c0 c1
  obtain ⟨hW, ⟨p0, p1⟩, hR⟩ := hL
  have no : ¬ thr s c → ∃ s', FX12_mayBe_b45 N s 113 c = some (if okc ru s c then 1 else 0, s') ∧ Scr s s' ∧ (okc ru s c → s' 113 48 = mm (wlk s (cK c) (cR c) (cO c))) := by
    intro z
    unfold FX12_mayBe_b45 FX12_mayBe_b46 FX12_mayBe_b74 FX12_mayBe_b75
    rw [if_pos rfl, if_neg (show ¬ okc ru s c from fun y => z y.1)]
    exact ⟨s, rfl, Scr.refl, fun y => absurd y.1 z⟩
  have yes : thr s c → ∃ s', FX12_mayBe_b41 N s 113 c = some (if okc ru s c then 1 else 0, s') ∧ Scr s s' ∧ (okc ru s c → s' 113 48 = mm (wlk s (cK c) (cR c) (cO c))) := by
    intro z
    obtain ⟨s', a1, a2, a3⟩ := FX12_lawOf_ok hN hW (thr_isW c0 c1 z) p0 p1 hR
    unfold FX12_mayBe_b41 FX12_mayBe_b46 FX12_mayBe_b74 FX12_mayBe_b75
    rw [if_neg (by omega), k1, Option.bind_some, k2, Option.bind_some, k3, Option.bind_some, a1, Option.bind_some]
    dsimp only
    refine ⟨s', ?_, a2, fun y => a3 y.2⟩
    by_cases e : lwf ru s (cK c) (cR c) (cO c) = 0
    · rw [if_pos e, if_pos (show okc ru s c from ⟨z, e⟩)]; rfl
    · rw [if_neg e, if_neg (show ¬ okc ru s c from fun y => e y.2)]; rfl
  unfold FX12_mayBe
  rw [k2, Option.bind_some, FX12_isRoom_ok hW.1, Option.bind_some]
  by_cases e1 : cR c < s 114 2
  · rw [if_pos (show 0 ≤ cR c ∧ cR c < s 114 2 from ⟨h3, e1⟩), if_neg (by omega), k1, Option.bind_some]
    by_cases e2 : cK c = 2
    · rw [if_pos e2, k3, Option.bind_some, FX12_isRoom_ok hW.1, Option.bind_some]
      by_cases e3 : cO c < s 114 2
      · rw [if_pos (show 0 ≤ cO c ∧ cO c < s 114 2 from ⟨h5, e3⟩), if_neg (by omega), Option.bind_some, Option.bind_some]
        by_cases e4 : cO c ≤ cR c
        · rw [if_pos e4]; exact no (fun y => by have := y.2 e2; omega)
        · rw [if_neg e4]; exact yes ⟨e1, fun _ => ⟨e3, by omega⟩⟩
      · rw [if_neg (show ¬ (0 ≤ cO c ∧ cO c < s 114 2) from fun y => e3 y.2), if_pos rfl]; exact no (fun y => e3 (y.2 e2).1)
    · rw [if_neg e2]; exact yes ⟨e1, fun y => absurd y e2⟩
  · rw [if_neg (show ¬ (0 ≤ cR c ∧ cR c < s 114 2) from fun y => e1 y.2), if_pos rfl]; exact no (fun y => e1 y.1)
theorem gd_no {l : List Int} {k : Nat} {d : Int} (h : l.length ≤ k) : l.getD k d = d := by rw [List.getD_eq_getElem?_getD, List.getElem?_eq_none h]; rfl
theorem gd_at {l t : List Int} {k : Nat} {d x : Int} (h : k = l.length) : (l ++ ([x] ++ t)).getD k d = x := by
  rw [List.getD_eq_getElem?_getD, List.getElem?_append_right (by omega), show k - l.length = 0 by omega]; rfl
theorem okl_len (ru : Option (List (List (Int × Int)))) (B : iv_M) : ∀ n, (okl ru B n).length ≤ n
  | 0 => by simp [okl]
  | n + 1 => by
    have := okl_len ru B n
    show (if okc ru B n then okl ru B n ++ [(n : Int)] else okl ru B n).length ≤ n + 1
    split
    · rw [List.length_append]; simp; omega
    · omega
theorem FX12_canNow_ok {N : Nat} {s : iv_M} {ru : Option (List (List (Int × Int)))} (hN : 1000 ≤ N) (hL : RefL s ru) : ∃ s', FX12_canNow N s 113 = some (((okl ru s 204).length : Int), s') ∧ Scr s s' := by
  unfold FX12_canNow
  obtain ⟨y, y1, y2⟩ := loop_up (L := fun n (x : iv_M × Int) i => FX12_canNow_l4 N 113 (fun (s_3253 : iv_M) (x3254_1 : Int) => (some (x3254_1, s_3253))) n x.1 x.2 i) (k := fun x => some (x.2, x.1)) (hi := 204) (fun i x => Scr s x.1 ∧ x.2 = ((okl ru s i.toNat).length : Int) ∧ 0 ≤ i) (fun n x hx => by
      show FX12_canNow_l4 N 113 (fun (s_3253 : iv_M) (x3254_1 : Int) => (some (x3254_1, s_3253))) (n + 1) x.1 x.2 204 = _
      rw [FX12_canNow_l4, if_pos (by omega)]) (fun n i x hx hi => by
      obtain ⟨x1, x2, i0⟩ := hx
      obtain ⟨s', a1, a2, a3⟩ := FX12_mayBe_ok hN (hL.scr x1) i0 hi
      have hlen := okl_len ru s i.toNat
      have hst : okl ru s (i + 1).toNat = if okc ru s i then okl ru s i.toNat ++ [i] else okl ru s i.toNat := by
        rw [show (i + 1).toNat = i.toNat + 1 by omega]
        show (if okc ru s (i.toNat : Int) then okl ru s i.toNat ++ [(i.toNat : Int)] else okl ru s i.toNat) = _
        rw [Int.toNat_of_nonneg i0]
      have hok := eb_okc (ru := ru) x1.eb i
      refine ⟨(s', ((okl ru s (i + 1).toNat).length : Int)), ?_, x1.trans a2, rfl, by omega⟩
      show FX12_canNow_l4 N 113 (fun (s_3253 : iv_M) (x3254_1 : Int) => (some (x3254_1, s_3253))) (n + 1) x.1 x.2 i = FX12_canNow_l4 N 113 (fun (s_3253 : iv_M) (x3254_1 : Int) => (some (x3254_1, s_3253))) n s' ((okl ru s (i + 1).toNat).length : Int) (i + 1)
      rw [FX12_canNow_l4, if_neg (by omega), a1, Option.bind_some]
      dsimp only
      unfold FX12_canNow_b25
      rw [hst]
      by_cases e : okc ru s i
      · rw [if_pos (hok.mpr e), if_neg (by omega), if_pos e, w32_id (by omega) (by omega), w32_id (by omega) (by omega), x2, List.length_append]
        rfl
      · rw [if_neg (fun z => e (hok.mp z)), if_pos rfl, if_neg e, w32_id (by omega) (by omega), w32_id (by omega) (by omega), x2, Int.add_zero]) N 0 (s, 0) ⟨Scr.refl, rfl, by omega⟩ (by omega) (by omega)
  have y2 : FX12_canNow_l4 N 113 (fun (s_3253 : iv_M) (x3254_1 : Int) => (some (x3254_1, s_3253))) N s 0 0 = some (y.2, y.1) := y2
  exact ⟨y.1, by rw [y2, y1.2.1]; rfl, y1.1⟩
theorem okl_pre {ru : Option (List (List (Int × Int)))} {B : iv_M} {n : Nat} : ∀ m : Nat, ∃ t, okl ru B (n + m) = okl ru B n ++ t
  | 0 => ⟨[], by simp⟩
  | m + 1 => by
    obtain ⟨t, ht⟩ := okl_pre (n := n) m
    have e : okl ru B (n + (m + 1)) = if okc ru B ((n + m : Nat) : Int) then okl ru B (n + m) ++ [((n + m : Nat) : Int)] else okl ru B (n + m) := rfl
    rw [e, ht]
    split
    · exact ⟨t ++ [((n + m : Nat) : Int)], by rw [List.append_assoc]⟩
    · exact ⟨t, rfl⟩
theorem FX12_codeAt_ok {N : Nat} {s : iv_M} {k : Int} {ru : Option (List (List (Int × Int)))} (hN : 1000 ≤ N) (hL : RefL s ru) (k0 : 0 ≤ k) : ∃ s', FX12_codeAt N s 113 k = some ((okl ru s 204).getD k.toNat (-1), s') ∧ Scr s s' ∧ (k < (okl ru s 204).length → s' 113 48 = mm (wlk s (cK ((okl ru s 204).getD k.toNat (-1))) (cR ((okl ru s 204).getD k.toNat (-1))) (cO ((okl ru s 204).getD k.toNat (-1))))) := by
  unfold FX12_codeAt
  have main : ∀ (n : Nat) (i : Int) (t : iv_M), Scr s t → 0 ≤ i → i ≤ 204 → 204 - i < n → ((okl ru s i.toNat).length : Int) ≤ k → ∃ s', FX12_codeAt_l4 N 113 k (fun (s_3259 : iv_M) => (some ((-1), s_3259))) n t ((okl ru s i.toNat).length : Int) i = some ((okl ru s 204).getD k.toNat (-1), s') ∧ Scr s s' ∧ (k < (okl ru s 204).length → s' 113 48 = mm (wlk s (cK ((okl ru s 204).getD k.toNat (-1))) (cR ((okl ru s 204).getD k.toNat (-1))) (cO ((okl ru s 204).getD k.toNat (-1))))) := by
    intro n
    induction n with
    | zero => intro i t h1 h2 h3 h4; omega
    | succ n ih =>
      intro i t hS i0 i1 hn hk
      rw [FX12_codeAt_l4]
      by_cases e : i = 204
      · subst e
        have hk' : ((okl ru s 204).length : Int) ≤ k := hk
        rw [if_pos (by omega), gd_no (by omega)]
        exact ⟨t, rfl, hS, fun z => by omega⟩
      · rw [if_neg (by omega)]
        obtain ⟨s', a1, a2, a3⟩ := FX12_mayBe_ok hN (hL.scr hS) i0 (by omega)
        have hlen := okl_len ru s i.toNat
        have hst : okl ru s (i + 1).toNat = if okc ru s i then okl ru s i.toNat ++ [i] else okl ru s i.toNat := by
          rw [show (i + 1).toNat = i.toNat + 1 by omega]
          show (if okc ru s (i.toNat : Int) then okl ru s i.toNat ++ [(i.toNat : Int)] else okl ru s i.toNat) = _
          rw [Int.toNat_of_nonneg i0]
        have hok := eb_okc (ru := ru) hS.eb i
        rw [a1, Option.bind_some]
        dsimp only
        unfold FX12_codeAt_b29
        by_cases e2 : okc ru s i
        · rw [if_pos (hok.mpr e2), if_neg (by omega)]
          rw [if_pos e2] at hst
          by_cases e3 : ((okl ru s i.toNat).length : Int) = k
          · rw [if_pos e3]
            obtain ⟨tl, ht⟩ := okl_pre (ru := ru) (B := s) (n := (i + 1).toNat) (204 - (i + 1).toNat)
            rw [show (i + 1).toNat + (204 - (i + 1).toNat) = 204 by omega, hst] at ht
            have hg : (okl ru s 204).getD k.toNat (-1) = i := by
              rw [ht, List.append_assoc]; exact gd_at (by omega)
            rw [hg]
            refine ⟨s', rfl, hS.trans a2, fun _ => ?_⟩
            rw [a3 (hok.mpr e2), eb_mm (eb_wlk hS.eb)]
          · rw [if_neg e3, w32_id (x := ((okl ru s i.toNat).length : Int) + 1) (by omega) (by omega), w32_id (by omega) (by omega)]
            have hl : ((okl ru s (i + 1).toNat).length : Int) = ((okl ru s i.toNat).length : Int) + 1 := by rw [hst, List.length_append]; rfl
            rw [← hl]
            exact ih (i + 1) s' (hS.trans a2) (by omega) (by omega) (by omega) (by omega)
        · rw [if_neg (fun z => e2 (hok.mp z)), if_pos rfl, w32_id (by omega) (by omega)]
          rw [if_neg e2] at hst
          rw [← hst]
          exact ih (i + 1) s' (hS.trans a2) (by omega) (by omega) (by omega) (by rw [hst]; exact hk)
  exact main N 0 s Scr.refl (by omega) (by omega) (by omega) k0
theorem FX12_does_ok {N : Nat} {s : iv_M} {c : Int} {ru : Option (List (List (Int × Int)))} (hW : Wf s) (c0 : 0 ≤ c) (c1 : c < 204) (h : okc ru s c) : FX12_does N s 113 c = some (wlk s (cK c) (cR c) (cO c)) := by
  obtain ⟨k1, k2, k3⟩ := kind_ok (N := N) (s := s) c0 c1
  unfold FX12_does
  rw [k1, Option.bind_some, k2, Option.bind_some, k3, Option.bind_some, FX12_walks_ok hW (thr_isW c0 c1 h.1) (cn_sl (lwf_cn h.2)), Option.bind_some]
theorem FX12_doesBack_ok {N : Nat} {s B : iv_M} {c : Int} {ru : Option (List (List (Int × Int)))} (hs : Eb (wlk B (cK c) (cR c) (cO c)) s) (hW : Wf B) (c0 : 0 ≤ c) (c1 : c < 204) (h : okc ru B c) : FX12_doesBack N s 113 c = some (blk B s) := by
  obtain ⟨k1, k2, k3⟩ := kind_ok (N := N) (s := s) c0 c1
  unfold FX12_doesBack
  rw [k1, Option.bind_some, k2, Option.bind_some, k3, Option.bind_some, FX12_walksBack_eb hs hW (thr_isW c0 c1 h.1) (cn_sl (lwf_cn h.2)), Option.bind_some]
theorem FX12_part_ok {N : Nat} {s : iv_M} {c w : Int} (c0 : 0 ≤ c) (c1 : c < 204) : FX12_part N s c w = some (if w = 0 then cK c else if w = 1 then cR c else cO c) := by
  obtain ⟨k1, k2, k3⟩ := kind_ok (N := N) (s := s) c0 c1
  unfold FX12_part FX12_part_b27
  rw [k1, Option.bind_some, k2, Option.bind_some, k3, Option.bind_some]
  split
  · rfl
  · split <;> rfl
