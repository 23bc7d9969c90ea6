-- THE FEWEST NIGHTS: the reference's answer, and the way
def Wy (y : iv_M) (L : List Nd) : Prop := L.length ≤ 1500 ∧ ∀ j : Nat, j < L.length → y 150 j = (nt L j).2.2.1 ∧ y 151 j = (nt L j).2.2.2
theorem count_up {N : Nat} {y B : iv_M} {L : List Nd} {kx : iv_M → Int → Option (Int × iv_M)} (hY : Wy y L) (hL : LT B L) (h0 : (nt L 0).2.2.1 = -1) : ∀ (i f : Nat) (n : Int), i < L.length → i < f → 0 ≤ n → n + (trw L i).length ≤ 5000 → FX12_finds_l173 N 113 kx f y n (i : Int) = kx y (n + (trw L i).length) := by
  intro i
  induction i using Nat.strongRecOn with
  | _ i ih =>
    intro f n hi hf hn hb
    obtain ⟨f', rfl⟩ : ∃ f', f = f' + 1 := ⟨f - 1, by omega⟩
    have hlen := hY.1
    have r := (hY.2 i hi).1
    rw [FX12_finds_l173]
    simp only [Nat.reduceAdd]
    rw [rd_ok (by omega) (by omega), Option.bind_some, r]
    by_cases c : i = 0
    · subst c
      rw [if_pos h0, trw_0]
      show kx y n = kx y (n + ((0 : Nat) : Int))
      rw [show n + ((0 : Nat) : Int) = n by omega]
    · obtain ⟨⟨h1, h2⟩, _⟩ := hL.2 i (by omega) hi
      have e := trw_s hL (by omega) hi
      have el : (trw L i).length = (trw L (nt L i).2.2.1.toNat).length + 1 := by rw [e, List.length_append]; simp
      have := ih (nt L i).2.2.1.toNat (by omega) f' (n + 1) (by omega) (by omega) (by omega) (by omega)
      rw [Int.toNat_of_nonneg h1] at this
      rw [if_neg (by omega), Option.bind_some, w32_id (by omega) (by omega), this, show n + 1 + ((trw L (nt L i).2.2.1.toNat).length : Int) = n + ((trw L i).length : Int) by omega]
theorem gd_last {l : List Int} {c : Int} : (l ++ [c]).getD l.length 0 = c := by
  rw [List.getD_eq_getElem?_getD, List.getElem?_append_right (Nat.le_refl _)]; simp
theorem gd_front {l : List Int} {c : Int} {k : Nat} (h : k < l.length) : (l ++ [c]).getD k 0 = l.getD k 0 := by
  rw [List.getD_eq_getElem?_getD, List.getD_eq_getElem?_getD, List.getElem?_append_left h]
theorem climb {N : Nat} {y B : iv_M} {L : List Nd} {x3 : Int} {kx : iv_M → Int → Option (Int × iv_M)} (hY : Wy y L) (hL : LT B L) : ∀ (i f k : Nat), i < L.length → i < f → k < (trw L i).length → ∃ v : Nat, v < L.length ∧ y 151 v = (trw L i).getD k 0 ∧ (0 ≤ (trw L i).getD k 0 ∧ (trw L i).getD k 0 < 204) ∧ FX12_row_l69 N 113 (k : Int) x3 kx f y (i : Int) (((trw L i).length : Int) - 1) = kx y (v : Int) := by
  intro i
  induction i using Nat.strongRecOn with
  | _ i ih =>
    intro f k hi hf hk
    obtain ⟨f', rfl⟩ : ∃ f', f = f' + 1 := ⟨f - 1, by omega⟩
    have hlen := hY.1
    obtain ⟨r1, r2⟩ := hY.2 i hi
    by_cases c : i = 0
    · subst c; rw [trw_0] at hk; cases hk
    obtain ⟨⟨h1, h2⟩, h3, h4⟩ := hL.2 i (by omega) hi
    have hl := trw_len hL i hi
    have e := trw_s hL (by omega) hi
    have el : (trw L i).length = (trw L (nt L i).2.2.1.toNat).length + 1 := by rw [e, List.length_append]; simp
    by_cases ek : k = (trw L (nt L i).2.2.1.toNat).length
    · refine ⟨i, hi, ?_, ?_, ?_⟩
      · rw [r2, e, ek, gd_last]
      · rw [e, ek, gd_last]; exact ⟨h3, h4⟩
      · rw [FX12_row_l69, if_pos (by omega)]
    · obtain ⟨v, v1, v2, v3, v4⟩ := ih (nt L i).2.2.1.toNat (by omega) f' k (by omega) (by omega) (by omega)
      rw [Int.toNat_of_nonneg h1] at v4
      have eg : (trw L i).getD k 0 = (trw L (nt L i).2.2.1.toNat).getD k 0 := by rw [e, gd_front (by omega)]
      refine ⟨v, v1, by rw [eg]; exact v2, by rw [eg]; exact v3, ?_⟩
      rw [FX12_row_l69, if_neg (by omega)]
      simp only [Nat.reduceAdd]
      rw [rd_ok (by omega) (by omega), Option.bind_some, r1, w32_id (by omega) (by omega), show ((trw L i).length : Int) - 1 + -1 = ((trw L (nt L i).2.2.1.toNat).length : Int) - 1 by omega]
      exact v4
/-- what the reference's answer leaves -/
def Rn2 (s y : iv_M) : Prop := (∀ a, a ≠ 113 → (a < 114 ∨ 131 < a) → (a < 146 ∨ 154 < a) → y a = s a) ∧ ∀ j, j ≠ 26 → j ≠ 27 → j ≠ 48 → j ≠ 56 → j ≠ 57 → j ≠ 58 → y 113 j = s 113 j
theorem Dn_fin {N : Nat} {y B : iv_M} {r : Int × List Int} {v : Int} (hN : 5000 ≤ N) (h : Dn B r v y) : (if (y 113 58) = (-1) then (if v = 0 then (FX12_finds_b164 N y (-2)) else (FX12_finds_b164 N y (-3))) else (FX12_finds_l173 N 113 (fun (s_3663 : iv_M) (x3664_3 : Int) => (some (x3664_3, s_3663))) N y 0 (y 113 58))) = some (r.1, y) ∧ ((r.1 = -3 ∧ r.2 = []) ∨ (r.1 = -2 ∧ r.2 = []) ∨ (r.1 = r.2.length ∧ r.1 ≤ 1500 ∧ ∀ (k : Nat) (x3 : Int) (kx : iv_M → Int → Option (Int × iv_M)), k < r.2.length → ∃ u : Nat, u < 1501 ∧ y 151 u = r.2.getD k 0 ∧ (0 ≤ r.2.getD k 0 ∧ r.2.getD k 0 < 204) ∧ FX12_row_l69 N 113 (k : Int) x3 kx N y (y 113 58) (r.1 - 1) = kx y (u : Int))) := by
  obtain ⟨_, ⟨a1, a2, a3⟩ | ⟨a1, a2, a3⟩ | ⟨a1, a2, a3, a4⟩ | ⟨L, i, c, a1, a2, a3, a4, a5, a6, a7, a8⟩⟩ := h
  · rw [if_pos a3, a2, a1]; exact ⟨rfl, Or.inl ⟨rfl, rfl⟩⟩
  · rw [if_pos a3, a2, a1]; exact ⟨rfl, Or.inr (Or.inl ⟨rfl, rfl⟩)⟩
  · rw [a3, if_neg (by decide), a1]
    refine ⟨?_, Or.inr (Or.inr ⟨rfl, by show (0 : Int) ≤ 1500; decide, (fun k _ _ hk => by cases hk)⟩)⟩
    obtain ⟨f, rfl⟩ : ∃ f, N = f + 1 := ⟨N - 1, by omega⟩
    rw [FX12_finds_l173]
    simp only [Nat.reduceAdd]
    rw [rd_ok (by omega) (by omega), Option.bind_some, if_pos a4]
  · obtain ⟨b1, b2, b3, b4, b5, b6⟩ := a3
    have hY : Wy y L := ⟨b4, b5⟩
    have hl := trw_len a4 i a6
    have l1 : (trw L i ++ [c]).length = (trw L i).length + 1 := by simp
    obtain ⟨f, hf⟩ : ∃ f, N = f + 1 := ⟨N - 1, by omega⟩
    rw [b1, if_neg (by omega), a1]
    refine ⟨?_, Or.inr (Or.inr ⟨by show ((trw L i).length : Int) + 1 = _; rw [l1]; omega, by show ((trw L i).length : Int) + 1 ≤ 1500; omega, fun k x3 kx hk => ?_⟩)⟩
    · have cu := count_up (N := N) (kx := fun (s_3663 : iv_M) (x3664_3 : Int) => (some (x3664_3, s_3663))) hY a4 a5 i f 1 a6 (by omega) (by omega) (by omega)
      have hst : FX12_finds_l173 N 113 (fun (s_3663 : iv_M) (x3664_3 : Int) => (some (x3664_3, s_3663))) (f + 1) y 0 (L.length : Int) = FX12_finds_l173 N 113 (fun (s_3663 : iv_M) (x3664_3 : Int) => (some (x3664_3, s_3663))) f y 1 (i : Int) := by
        rw [FX12_finds_l173]
        simp only [Nat.reduceAdd]
        rw [rd_ok (by omega) (by omega), Option.bind_some, b2, if_neg (by omega), Option.bind_some]
        rfl
      have : FX12_finds_l173 N 113 (fun (s_3663 : iv_M) (x3664_3 : Int) => (some (x3664_3, s_3663))) N y 0 (L.length : Int) = some (1 + ((trw L i).length : Int), y) := by
        rw [← hf] at hst
        exact hst.trans cu
      rw [this]
      show some (1 + ((trw L i).length : Int), y) = some (((trw L i).length : Int) + 1, y)
      rw [show 1 + ((trw L i).length : Int) = ((trw L i).length : Int) + 1 by omega]
    · have hk' : k < (trw L i).length + 1 := by rw [← l1]; exact hk
      show ∃ u : Nat, u < 1501 ∧ y 151 u = (trw L i ++ [c]).getD k 0 ∧ (0 ≤ (trw L i ++ [c]).getD k 0 ∧ (trw L i ++ [c]).getD k 0 < 204) ∧ FX12_row_l69 N 113 (k : Int) x3 kx N y (L.length : Int) (((trw L i).length : Int) + 1 - 1) = kx y (u : Int)
      by_cases ek : k = (trw L i).length
      · refine ⟨L.length, by omega, ?_, ?_, ?_⟩
        · rw [b3, ek, gd_last]
        · rw [ek, gd_last]; exact ⟨a7, a8⟩
        · rw [hf, FX12_row_l69, if_pos (by omega)]
      · obtain ⟨u, u1, u2, u3, u4⟩ := climb (N := N) (x3 := x3) (kx := kx) hY a4 i f k a6 (by omega) (by omega)
        have eg : (trw L i ++ [c]).getD k 0 = (trw L i).getD k 0 := gd_front (by omega)
        refine ⟨u, by omega, by rw [eg]; exact u2, by rw [eg]; exact u3, ?_⟩
        have hst : FX12_row_l69 N 113 (k : Int) x3 kx (f + 1) y (L.length : Int) (((trw L i).length : Int) + 1 - 1) = FX12_row_l69 N 113 (k : Int) x3 kx f y (i : Int) (((trw L i).length : Int) - 1) := by
          rw [FX12_row_l69, if_neg (by omega)]
          simp only [Nat.reduceAdd]
          rw [rd_ok (by omega) (by omega), Option.bind_some, b2, w32_id (by omega) (by omega), show ((trw L i).length : Int) + 1 - 1 + -1 = ((trw L i).length : Int) - 1 by omega]
        rw [← hf] at hst
        exact hst.trans u4
theorem finds_ok {N : Nat} {s B : iv_M} {m k : Int} {ru : Option (List (List (Int × Int)))} (hN : 5000 ≤ N) (hB : WHm m B) (hO : OZ B) (hE : Eb B s) (hR : RUO s (B 114 12) ru) (hd : hdr B k) (hv : FV B (dC B k) (dT B k)) (hmk : ∀ t, 0 ≤ t → t < 4096 → s 153 t ≤ s 113 56) (h56 : 0 ≤ s 113 56 ∧ s 113 56 ≤ 2000) : ∃ y, FX12_finds N s 113 k = some ((srch ru B k).1, y) ∧ Eb B y ∧ Rn2 s y ∧ y 113 56 = s 113 56 + 1 ∧ (∀ t, 0 ≤ t → t < 4096 → y 153 t ≤ y 113 56) ∧ (((srch ru B k).1 = -3 ∧ (srch ru B k).2 = []) ∨ ((srch ru B k).1 = -2 ∧ (srch ru B k).2 = []) ∨ ((srch ru B k).1 = (srch ru B k).2.length ∧ (srch ru B k).1 ≤ 1500 ∧ ∀ (j : Nat) (x3 : Int) (kx : iv_M → Int → Option (Int × iv_M)), j < (srch ru B k).2.length → ∃ u : Nat, u < 1501 ∧ y 151 u = (srch ru B k).2.getD j 0 ∧ (0 ≤ (srch ru B k).2.getD j 0 ∧ (srch ru B k).2.getD j 0 < 204) ∧ FX12_row_l69 N 113 (j : Int) x3 kx N y (y 113 58) ((srch ru B k).1 - 1) = kx y (u : Int))) := by
  have hW := hB.1
  obtain ⟨K, hK⟩ : ∃ K, K = flF s 154 0 12 := ⟨_, rfl⟩
  have Ko : ∀ a, a ≠ 154 → K a = s a := fun a ha => by rw [hK, flF_o ha]
  obtain ⟨g, hg⟩ : ∃ g, g = mu (mu (mu K 113 56 (s 113 56 + 1)) 113 57 0) 113 58 (-1) := ⟨_, rfl⟩
  have og : ∀ a, a ≠ 113 → g a = K a := fun a ha => by rw [hg, mu_rw ha, mu_rw ha, mu_rw ha]
  have g56 : g 113 56 = s 113 56 + 1 := by rw [hg, mu_ne (by omega), mu_ne (by omega), mu_eq]
  have g57 : g 113 57 = 0 := by rw [hg, mu_ne (by omega), mu_eq]
  have g58 : g 113 58 = -1 := by rw [hg, mu_eq]
  have g11 : ∀ j, j ≠ 56 → j ≠ 57 → j ≠ 58 → g 113 j = s 113 j := fun j h1 h2 h3 => by rw [hg, mu_ne (by omega), mu_ne (by omega), mu_ne (by omega), Ko 113 (by omega)]
  have hEg : Eb B g := fun a a0 a1 => by rw [og a (by omega), Ko a (by omega), hE a a0 a1]
  have g153 : g 153 = s 153 := by rw [og 153 (by omega), Ko 153 (by omega)]
  have hS0 : SRf g B [] := by
    refine ⟨by rw [g57]; rfl, by show 0 ≤ 1500; omega, (fun j hj => by cases hj), HT_none (fun t t0 t1 => ?_), fun t t0 t1 => ⟨?_, fun q => ?_⟩⟩
    · unfold Eref
      have := hmk t t0 t1
      rw [g153, g56, if_neg (by omega)]
    · have := hmk t t0 t1
      rw [g153, g56]; omega
    · have := hmk t t0 t1
      rw [g153, g56] at q; omega
  have hSB : Sok m B B := ⟨Lok.refl hB hO, rfl⟩
  have hT0 : LT B [] := ⟨(fun j hj => by cases hj), (fun j _ hj => by cases hj)⟩
  have hRg : RUO g (B 114 12) ru := RUO_ext (fun a ha => by rw [og a (by omega), Ko a (by omega)]) hR
  have hs : srch ru B k = if keyB B = wnt B k then (0, []) else bfs ru B (wnt B k) 1501 0 [((keyB B).1, (keyB B).2, -1, -1)] := rfl
  -- the search
  have key : ∃ v y P, ((FX12_comes N g 113 (-1) (-1) k).bind fun r_3631 => (fun (v_3631 : Int) (s_3632 : iv_M) => (FX12_finds_l39 N 113 k (fun (s_3633 : iv_M) (x3634_2 : Int) => (FX12_finds_b136 N s_3633 113 x3634_2)) N s_3632 v_3631 0)) r_3631.1 r_3631.2) = FX12_finds_b136 N y 113 v ∧ Dn B (srch ru B k) v y ∧ Eb P y ∧ Sok m B P ∧ Rs g y := by
    obtain ⟨f, hf⟩ : ∃ f, N = f + 1 := ⟨N - 1, by omega⟩
    rcases comes_ok (N := N) (y := g) (B := B) (P := B) (L := []) (m := m) (k := k) (i := -1) (c := -1) hN hB hS0 hT0 hSB hEg hd hv g58 (fun q => by cases q) with ⟨a1, x, a2, a3, a4, a5⟩ | ⟨a1, a2, a3⟩ | ⟨a1, a2, a3, a4⟩ | ⟨a1, a2, a3, x, a4, a5, a6, a7, a8⟩
    · obtain ⟨b1, b2, b3, b4, b5, b6⟩ := a3
      have x58 : x 113 58 = 0 := b1
      refine ⟨0, x, B, ?_, ⟨b6, Or.inr (Or.inr (Or.inl ⟨by rw [hs, if_pos a1], rfl, x58, b2⟩))⟩, fun a z0 z1 => by rw [a5 a z0 z1, hEg a z0 z1], hSB, a4⟩
      rw [a2, Option.bind_some]
      dsimp only
      have := stop39 (N := N) (x1 := k) (v := 0) (c := 0) (kx := fun (s_3633 : iv_M) (x3634_2 : Int) => (FX12_finds_b136 N s_3633 113 x3634_2)) (y := x) (f := f) (Or.inr (by omega))
      rw [← hf] at this
      exact this
    · cases a2
    · cases a3
    · rw [hs, if_neg a1]
      have hEx : Eb B x := fun a z0 z1 => by rw [a8 a z0 z1, hEg a z0 z1]
      have hT1 : LT B ([] ++ [((keyB B).1, (keyB B).2, (-1 : Int), (-1 : Int))]) := by
        refine ⟨fun j hj => ?_, fun j j0 hj => ?_⟩
        · have : j = 0 := by simp at hj; omega
          subst this
          exact (NOK_sok hSB).1
        · simp at hj; omega
      obtain ⟨v, y, P, u1, u2, u3, u4, u5⟩ := ref_out (N := N) (s := g) (B := B) (m := m) (k := k) (ru := ru) (kx := fun (s_3633 : iv_M) (x3634_2 : Int) => (FX12_finds_b136 N s_3633 113 x3634_2)) hN hB hO hRg hd hv 1501 0 N x ([] ++ [((keyB B).1, (keyB B).2, (-1 : Int), (-1 : Int))]) (by omega) (by omega) ⟨B, hEx, hSB⟩ a5 hT1 rfl (knn_snoc (fun q => by cases q) a1) a6 a7
      refine ⟨v, y, P, ?_, u2, u3, u4, u5⟩
      rw [a4, Option.bind_some]
      exact u1
  obtain ⟨v, y, P, k1, k2, k3, k4, k5⟩ := key
  have y154 : y 154 = K 154 := by rw [k5.1 154 (by omega) (by omega) (by omega), og 154 (by omega)]
  obtain ⟨x, x1, x2, x3⟩ := laid_back (N := N) (s := B) (x := y) (m := m) (P := P) (by omega) hW hO k4.1 (fun j => by rw [k3 114 (by omega) (by omega), k4.all]) (fun a z0 z1 => k3 a (by omega) z1) (fun r r0 r1 => by
    rw [y154, hK]
    have := flF_c (s := s) (q := 154) (b := 0) r0 r1
    rw [show (0 : Int) + 2 * r = 2 * r by omega, hE 116 (by omega) (by omega), hE 117 (by omega) (by omega)] at this
    exact this)
  have hDx : Dn B (srch ru B k) v x := Dn_ext (x3 113 (by omega)) (fun a a0 a1 => x3 a (by omega)) k2
  obtain ⟨d1, d2⟩ := Dn_fin (N := N) hN hDx
  have x113 : x 113 = y 113 := x3 113 (by omega)
  refine ⟨x, ?_, x2, ⟨fun a z0 z1 z2 => by rw [x3 a z1, k5.1 a z0 z1 (by omega), og a z0, Ko a (by omega)], fun j z0 z1 z2 z3 z4 z5 => by rw [x113, k5.2 j z0 z1 z2 z4 z5, g11 j z3 z4 z5]⟩, by rw [x113, k5.2 56 (by omega) (by omega) (by omega) (by omega) (by omega), g56], hDx.1, d2⟩
  unfold FX12_finds
  simp only [Nat.reduceAdd]
  rw [FX12_fillsFloor_ok (m := 24) (by omega) (by omega) (by decide) (by omega) (by omega), Option.bind_some, ← hK, pt_ok, Option.bind_some, pt_ok, Option.bind_some, pt_ok, Option.bind_some, Ko 113 (by omega), w32_id (by omega) (by omega), ← hg, k1]
  unfold FX12_finds_b136
  simp only [Nat.reduceAdd]
  rw [x1, Option.bind_some]
  exact d1
