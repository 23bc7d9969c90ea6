-- IMAGE: the call whole. In: Inv, and the number of cells as the images have it
def Nc (nc : Nat) (s : iv_M) : Prop := (nc : Int) = 174 + 22 * (s 173 0 + s 173 1 + s 173 2 + s 173 3)
theorem Nc_4 {t : Int} {nc : Nat} {s : iv_M} (hI : Inv t s) (h : Nc nc s) {k : Int} (k0 : 0 ≤ k) (k1 : k < 4) (hk : s 173 k = 0) : nc = 174 ∨ nc = 196 ∨ nc = 218 ∨ nc = 240 := by
  have im := hI.2.2.2.2.2.1
  have b : ∀ j, 0 ≤ j → j < 4 → s 173 j = 0 ∨ s 173 j = 1 := fun j j0 j1 => by
    rcases im j j0 j1 with z | z
    · exact Or.inl z.1
    · exact Or.inr z.1
  have b0 := b 0 (by omega) (by omega)
  have b1 := b 1 (by omega) (by omega)
  have b2 := b 2 (by omega) (by omega)
  have b3 := b 3 (by omega) (by omega)
  unfold Nc at h
  have : k = 0 ∨ k = 1 ∨ k = 2 ∨ k = 3 := by omega
  rcases this with rfl | rfl | rfl | rfl <;> omega
theorem image_173 {N : Nat} {s1 s2 : iv_M} {k a : Int} (hN : 1000 ≤ N) (hO : OZ s1) (k0 : 0 ≤ k) (k1 : k < 4) (h : FX12_image N s1 113 k = some (a, s2)) : ∀ i, s2 173 i = if i = k then 1 else s1 173 i := by
  obtain ⟨y, hy⟩ : ∃ y, y = mu s1 173 k 1 := ⟨_, rfl⟩
  have oy : ∀ a, a ≠ 173 → y a = s1 a := fun a ha => by rw [hy, mu_rw ha]
  obtain ⟨x, x1, x2, x3, x4, x5⟩ := carriesTo_ok (N := N) (s := y) (k := k) hN (fun a a0 a1 i hi => by rw [oy a (by omega)]; exact hO a a0 a1 i hi) k0 k1
  unfold FX12_image at h
  simp only [Nat.reduceAdd] at h
  rw [FX12_in_ok, Option.bind_some, if_pos (show 0 ≤ k ∧ k ≤ 3 by omega), if_neg (by decide), wr_ok k0 (by omega), Option.bind_some, ← hy, x1, Option.bind_some, rd_ok (by omega) (by omega), Option.bind_some] at h
  injection h with h
  injection h with _ h
  intro i
  rw [← h, x4 173 (by omega) (by omega), hy]
  by_cases e : i = k
  · rw [if_pos e, e, mu_eq]
  · rw [if_neg e, mu_ne (by omega)]
theorem Nc_new {nc : Nat} {s s2 : iv_M} {k : Int} (h : Nc nc s) (k0 : 0 ≤ k) (k1 : k < 4) (hk : s 173 k = 0) (h2 : ∀ i, s2 173 i = if i = k then 1 else s 173 i) : Nc (nc + 22) s2 := by
  unfold Nc at h ⊢
  have : k = 0 ∨ k = 1 ∨ k = 2 ∨ k = 3 := by omega
  rcases this with rfl | rfl | rfl | rfl
  · rw [h2 0, h2 1, h2 2, h2 3, if_pos rfl, if_neg (by decide), if_neg (by decide), if_neg (by decide)]; omega
  · rw [h2 0, h2 1, h2 2, h2 3, if_neg (by decide), if_pos rfl, if_neg (by decide), if_neg (by decide)]; omega
  · rw [h2 0, h2 1, h2 2, h2 3, if_neg (by decide), if_neg (by decide), if_pos rfl, if_neg (by decide)]; omega
  · rw [h2 0, h2 1, h2 2, h2 3, if_neg (by decide), if_neg (by decide), if_neg (by decide), if_pos rfl]; omega
theorem Nc_same {nc : Nat} {s s2 : iv_M} {k : Int} (h : Nc nc s) (hk : s 173 k = 1) (h2 : ∀ i, s2 173 i = if i = k then 1 else s 173 i) : Nc nc s2 := by
  have e : ∀ i, s2 173 i = s 173 i := fun i => by
    rw [h2]
    by_cases z : i = k
    · rw [if_pos z, z, hk]
    · rw [if_neg z]
  unfold Nc at h ⊢
  rw [e, e, e, e]; exact h
set_option maxRecDepth 10000 in
set_option maxHeartbeats 4000000 in
theorem cl_image {t : Int} {d nc Ls : Nat} {Xs : Nat → Int32} (hd : 6 ≤ d) {h : iv_H} {s : iv_M} (hR : Rep nc Ls Xs h s) (t0 : ∀ n, nc ≤ n → T11 n 0) {m1 : Int32} {x1 : Int} (p1 : m1.toInt = x1) (hI : Inv t s) (tt : 0 ≤ t) (hnc : Nc nc s) {Q : Option Value → iv_H → Prop} (hQ : ∀ (z : Int32) (h1 : iv_H) (n2 : Nat) (s1 s2 : iv_M), nc ≤ n2 → Rep n2 Ls Xs h1 s1 → FX12_image 1000 s1 113 x1 = some (z.toInt, s2) → Inv (t + 1) s2 → Nc n2 s2 → Q (some (.int z)) h1) : Cl d 187 [.ref 0, .int m1] h Q := by
  obtain ⟨d, rfl⟩ : ∃ k, d = k + 1 := ⟨d - 1, by omega⟩
  have hd : 5 ≤ d := by omega
  by_cases hx : 0 ≤ x1 ∧ x1 < 4
  rotate_left
  · refine image_none hR p1 hx (fun z hz => hQ z h nc s s (Nat.le_refl _) hR ?_ (HR1_mono (by omega) hI) hnc)
    rw [hz]
    unfold FX12_image
    rw [FX12_in_ok, Option.bind_some, if_neg (show ¬ (0 ≤ x1 ∧ x1 ≤ 3) by omega), if_pos rfl]
  obtain ⟨x0, x4⟩ := hx
  have hT := hX11_image
  have T0 := t0 nc (Nat.le_refl _)
  obtain ⟨n1, n2, n3⟩ := now_HQ hI.1
  have e04 : (s 0 4).toNat = now s := rfl
  have hW := hI.2.2.1
  have im := hI.2.2.2.2.2.1 x1 x0 x4
  have l37 : ∀ j, 0 ≤ j → j < 4 → s 173 j = 0 ∨ s 173 j = 1 := fun j j0 j1 => by
    rcases hI.2.2.2.2.2.1 j j0 j1 with z | z
    · exact Or.inl z.1
    · exact Or.inr z.1
  refine Cl.into (by decide) gX11_image rfl ?_
  show Rn d 187 (some .int) 0 [some (.ref 0), some (.int m1)] [] h Q
  refine Rn.n hT 1 (pc' := 1) (L' := [some (.ref 0), some (.int m1)]) (st' := [.int m1]) rfl ?_
  refine Rn.bf hT rfl rfl rfl (decide_eq_false (fun z => by have := (ti_l p1 L32_0).mp z; omega)) ?_
  refine Rn.n hT 2 (pc' := 6) (L' := [some (.ref 0), some (.int m1)]) (st' := [.int (4 : Int32), .int m1]) rfl ?_
  refine Rn.bt hT rfl rfl rfl (decide_eq_true ((ti_l p1 L32_4).mpr x4)) ?_
  refine Rn.n hT 1 (pc' := 12) (L' := [some (.ref 0), some (.int m1)]) (st' := [.ref 0]) rfl ?_
  refine Rn.hp hT rfl rfl (gR_hp (rp_gR hR (T11_o T0) rfl)) ?_
  refine Rn.n hT 1 (pc' := 16) (L' := [some (.ref 0), some (.int m1)]) (st' := [.int m1, .ref (0 + 53)]) rfl ?_
  obtain ⟨g1, f1⟩ := rp_aN (v := s 53 x1) hR (T11_6 T0) (T11_6l T0) p1 (rd_ok x0 x4)
  refine Rn.hp hT rfl rfl (aN_hp g1) ?_
  rcases im with ⟨i1, i2⟩ | ⟨i1, q, i2, i3, i4, i5⟩
  · -- a house is made
    have hn4 := Nc_4 hI hnc x0 x4 i1
    rw [rvo_neg (by omega)]
    show Rn d _ _ 17 [some (.ref 0), some (.int m1)] [.null] h Q
    refine Rn.bf hT rfl rfl rfl rfl ?_
    obtain ⟨h', s', a1, a2, a3, a4⟩ := Rep_house hR hn4
    have T1 := t0 (nc + 22) (by omega)
    have t2 : T2 (nc + 22) nc := T2_hi (by omega) (by omega) (by omega)
    obtain ⟨h2, b1, b2⟩ := rp_wQ (x := x1) a3 (T11_6 T1) (T11_6l T1) p1 x0 x4 t2
    refine Rn.n hT 1 (pc' := 21) (L' := [some (.ref 0), some (.int m1)]) (st' := [.ref 0]) rfl ?_
    refine Rn.hp hT rfl rfl (gR_hp (rp_gR hR (T11_o T0) rfl)) ?_
    refine Rn.n hT 1 (pc' := 25) (L' := [some (.ref 0), some (.int m1)]) (st' := [.int m1, .ref (0 + 53)]) rfl ?_
    refine Rn.hp hT rfl rfl (nO_hp a1) ?_
    refine Rn.n hT 1 (pc' := 29) (L' := [some (.ref 0), some (.int m1)]) (st' := [.ref nc, .ref nc, .int m1, .ref (0 + 53)]) rfl ?_
    refine Rn.call hT rfl rfl rfl (Nat.le_of_ble_eq_true rfl) rfl (rX2_init (by omega) a2 ?_)
    show Rn d _ _ 32 [some (.ref 0), some (.int m1)] [.ref nc, .int m1, .ref (0 + 53)] h' Q
    refine Rn.hp hT rfl rfl (wQ_hp b1) ?_
    show Rn d _ _ 33 [some (.ref 0), some (.int m1)] [] h2 Q
    obtain ⟨x, hx⟩ : ∃ x, x = mu s' 53 x1 (nc : Int) := ⟨_, rfl⟩
    have b2 : Rep (nc + 22) Ls Xs h2 x := by rw [hx]; exact b2
    have xo : ∀ a, a ≠ 53 → (a < nc ∨ nc + 22 ≤ a) → x a = s a := fun a u1 u2 => by rw [hx, mu_rw u1, a4 a u2]
    have x53 : ∀ i, x 53 i = if i = x1 then (nc : Int) else s 53 i := fun i => by
      rw [hx]
      by_cases z : i = x1
      · rw [if_pos z, z, mu_eq]
      · rw [if_neg z, mu_ne (by omega), a4 53 (by omega)]
    have hH : HR x (now s) s := HR_ext (fun a u0 u1 => xo a (by omega) (by omega)) hI.2.1
    have hq : HQ nc := Or.inr (Or.inr ⟨by omega, by omega⟩)
    obtain ⟨s1, c1, c2, c3⟩ := FX2_copyFrom_ok (N := 1000) (q := nc) (p := now s) (by omega) hq n1 (by omega) hH hW
    have x04 : (x 0 4).toNat = now s := by rw [xo 0 (by omega) (by omega)]; rfl
    have s104 : (s1 0 4).toNat = now s := by rw [c3 0 (by omega), xo 0 (by omega) (by omega)]; rfl
    refine image_tail hd b2 T1 p1 x0 x4 (by rw [x53, if_pos rfl]) (by rw [x04]; exact c1) (fun z h3 hz R3 => ?_)
    have s1o : ∀ a, a ≠ 53 → (a < nc ∨ nc + 21 < a) → s1 a = s a := fun a u1 u2 => by rw [c3 a u2, xo a u1 (by omega)]
    have hz2 : z.toInt = s 114 6 := by
      rw [hz, s104, s1o _ (by omega) (by omega)]
      exact hI.2.1.1.2.2.2.2.2.1
    obtain ⟨s2, d1, d2⟩ := image_ok (N := 1000) (q := nc) (by omega) hI x0 x4 hq (by omega) (Or.inr ⟨i1, hnc⟩) s1o (fun i => by rw [c3 53 (by omega), x53]) c2
    refine hQ z h3 (nc + 22) s1 s2 (by omega) R3 (by rw [hz2]; exact d1) d2 (Nc_new hnc x0 x4 i1 (fun i => ?_))
    rw [image_173 (by omega) (fun a u0 u1 i hi => by rw [s1o a (by omega) (by omega)]; exact hI.2.2.2.2.2.2.2.2.2 a u0 u1 i hi) x0 x4 d1, s1o 173 (by omega) (by omega)]
  · -- the house stands
    have nn : ¬ s 53 x1 < 0 := by omega
    rw [rvo_pos nn]
    show Rn d _ _ 17 [some (.ref 0), some (.int m1)] [.ref ((s 53 x1).toNat)] h Q
    refine Rn.bt hT rfl rfl rfl rfl ?_
    have hH : HR s (now s) s := hI.2.1
    obtain ⟨s1, c1, c2, c3⟩ := FX2_copyFrom_ok (N := 1000) (q := q) (p := now s) (by omega) i4 n1 (by omega) hH hW
    have s104 : (s1 0 4).toNat = now s := by rw [c3 0 (by omega)]; rfl
    refine image_tail hd hR T0 p1 x0 x4 i2 c1 (fun z h3 hz R3 => ?_)
    have hz2 : z.toInt = s 114 6 := by
      rw [hz, s104, c3 _ (by omega)]
      exact hI.2.1.1.2.2.2.2.2.1
    obtain ⟨s2, d1, d2⟩ := image_ok (N := 1000) (q := q) (by omega) hI x0 x4 i4 i3 (Or.inl ⟨i1, i2⟩) (fun a _ u => c3 a u) (fun i => by
      rw [c3 53 (by omega)]
      by_cases z : i = x1
      · rw [if_pos z, z, i2]
      · rw [if_neg z]) c2
    refine hQ z h3 nc s1 s2 (Nat.le_refl _) R3 (by rw [hz2]; exact d1) d2 (Nc_same hnc i1 (fun i => ?_))
    rw [image_173 (by omega) (fun a u0 u1 i hi => by rw [c3 a (by omega)]; exact hI.2.2.2.2.2.2.2.2.2 a u0 u1 i hi) x0 x4 d1, c3 173 (by omega)]
