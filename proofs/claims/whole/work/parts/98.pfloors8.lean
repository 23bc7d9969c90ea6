-- FLOORS: the reference's loop over all rooms
theorem fl_inner {N : Nat} {w tn : Bool} {x1 x2 x3 n r : Int} {k : Int → Int} {rs : List Int} {l : Nat} {z0 P : iv_M} {kx : iv_M → Int → Int → Option (Int × iv_M)} (hN : 100 ≤ N) (hw : x2 = if w = true then 1 else 0) (h3 : x3 = 1 ∨ x3 = 4) (h1 : x1 = l + 1 + rs.length) (h12 : x1 ≤ 12) (hr : z0 157 l = r) (hk : z0 159 r = k r ∧ 0 ≤ k r ∧ k r < 4) (hT : fTP (r :: rs) P) (hn : P 114 2 = n)
    (hd : rs ≠ [] → ∀ (c v : Int) (y : iv_M) (a x5 : Int), 0 ≤ c → c < 16 → 0 ≤ v → v < 4 → ffr P c = true → rE y (flr P r c v) → fFr n z0 y → 0 ≤ x5 → x5 ≤ 20000 → y 158 ((l + 1 : Nat) : Int) = 0 → fOut N x1 x2 x3 kx n z0 y (flr P r c v) a x5 (l + 1) (flw w tn k rs (flr P r c v)) 65) : ∀ (e t : Nat) (z : iv_M) (a x5 : Int), (t : Int) + e = 16 * x3 → z 158 (l : Int) = t → (0 < (t : Int) → 0 ≤ z 116 r ∧ z 116 r < 16) → rE (fun1 z r t) P → fFr n z0 z → 0 ≤ x5 → x5 ≤ 20000 → fOut N x1 x2 x3 kx n z0 z P a x5 l (fsm (fs1 w x3 (k r) (fun Q => flw w tn k rs Q) P r) e t) (e + 1) := by
  obtain ⟨r0, r1, rn⟩ := hT.2.2.1 r List.mem_cons_self
  have r12 : r < 12 := by have := hT.1.2.2.2.2.2.1; omega
  have hnn : ∀ Q : iv_M, 0 ≤ (flw w tn k rs Q).2 := fun Q => flw_nn rs Q
  intro e
  induction e with
  | zero =>
    intro t z a x5 he ht hc hE hF x0 x20
    refine Or.inl ⟨by show x5 + 0 ≤ 20000; omega, 1, fun1 z r t, by show ((1 : Nat) : Int) ≤ ((0 + 1 : Nat) : Int) + 130 * 0; omega, fun f => ?_, hE, fun1_Fr hF hc, fun j hj => by rw [fun1_row (by decide)]⟩
    rw [fl_head (r := r) (t := (t : Int)) (by omega) (by omega) (by omega) x20 (by rw [hF.1 157 (by decide) (by decide) (by decide) (by decide) (by decide)]; exact hr) ht r0 r12 hc, fl_up (by omega) (by omega) h3 (by rw [fun1_row (by decide), ht]; omega)]
    show _ = FX12_floors_l93 N 113 x1 x2 x3 kx f (fun1 z r t) (w32 (a + 0)) (x5 + 0) ((l : Int) - 1)
    rw [Int.add_zero, Int.add_zero]
  | succ e ih =>
    intro t z a x5 he ht hc hE hF x0 x20
    obtain ⟨y, hy⟩ : ∃ y, y = fun1 z r t := ⟨_, rfl⟩
    have yF : fFr n z0 y := by rw [hy]; exact fun1_Fr hF hc
    have yE : rE y P := by rw [hy]; exact hE
    have y8 : y 158 (l : Int) = t := by rw [hy, fun1_row (by decide)]; exact ht
    have y8j : y 158 = z 158 := by rw [hy, fun1_row (by decide)]
    have y9 : y 159 r = k r := by rw [yF.1 159 (by decide) (by decide) (by decide) (by decide) (by decide)]; exact hk.1
    obtain ⟨ya, yc⟩ := rE_W yE hT.1 hT.2.1
    have hff : ∀ c, ffr y c = ffr P c := fun c => by unfold ffr; rw [yE.1, yE.2.2.1]
    obtain ⟨c, hcc⟩ : ∃ c, c = (t : Int) / x3 := ⟨_, rfl⟩
    have c01 : 0 ≤ c ∧ c < 16 := by rw [hcc]; rcases h3 with rfl | rfl <;> omega
    obtain ⟨v, hv⟩ : ∃ v, v = if x3 = 1 then k r else (t : Int) % 4 := ⟨_, rfl⟩
    have v01 : 0 ≤ v ∧ v < 4 := by
      rw [hv]
      split
      · exact hk.2
      · omega
    obtain ⟨R, hR⟩ : ∃ R, R = fsm (fs1 w x3 (k r) (fun Q => flw w tn k rs Q) P r) e ((t + 1 : Nat) : Int) := ⟨_, rfl⟩
    have hSp : fsm (fs1 w x3 (k r) (fun Q => flw w tn k rs Q) P r) (e + 1) (t : Int) = fad (fs1 w x3 (k r) (fun Q => flw w tn k rs Q) P r t) R := by
      rw [hR]; show fad _ (fsm _ e ((t : Int) + 1)) = _
      rw [show (t : Int) + 1 = ((t + 1 : Nat) : Int) by omega]
    have hRn : 0 ≤ R.2 := by rw [hR]; exact fsm_nn (fun j => fs1_nn hnn j) e _
    have hfs : fs1 w x3 (k r) (fun Q => flw w tn k rs Q) P r t = if ffr P c = true then fon w (fun Q => flw w tn k rs Q) P r c v else (0, 0) := by
      unfold fs1; rw [← hcc, ← hv]
    obtain ⟨y1, hy1⟩ : ∃ y1, y1 = mu y 158 (l : Int) ((t : Int) + 1) := ⟨_, rfl⟩
    have y1F : fFr n z0 y1 := by rw [hy1]; exact fFr_158 yF
    have y1E : rE y1 P := rE_row yE (by rw [hy1, mu_rw (by decide)]) (by rw [hy1, mu_rw (by decide)]) (by rw [hy1, mu_rw (by decide)]) (fun _ _ _ _ => by rw [hy1, mu_rw (by decide), mu_rw (by decide)]; exact ⟨rfl, rfl⟩)
    have y18 : y1 158 (l : Int) = ((t + 1 : Nat) : Int) := by rw [hy1, mu_eq]; omega
    have y18j : ∀ j : Nat, j < l → y1 158 j = z 158 j := fun j hj => by rw [hy1, mu_ne (by omega), y8j]
    have st : ∀ f : Nat, FX12_floors_l93 N 113 x1 x2 x3 kx (f + 1) z (w32 a) x5 (l : Int) = if ffr P c = true then FX12_floors_b272 N (mu y1 116 r c) 113 x1 x2 x3 (w32 a) (x5 + 1) (l : Int) r c v r 117 (FX12_floors_l93 N 113 x1 x2 x3 kx f) kx else FX12_floors_l93 N 113 x1 x2 x3 kx f (mu y1 116 r c) (w32 a) x5 (l : Int) := fun f => by
      rw [fl_head (r := r) (t := (t : Int)) (by omega) (by omega) (by omega) x20 (by rw [hF.1 157 (by decide) (by decide) (by decide) (by decide) (by decide)]; exact hr) ht r0 r12 hc, ← hy, fl_try (t := (t : Int)) (by omega) (by omega) h3 y8 (by omega) (by omega) r0 r12 ya ⟨x0, x20⟩, ← hcc, hff, y9, ← hv, ← hy1]
    rw [hSp, hfs]
    by_cases fr : ffr P c = true
    rotate_left
    · rw [if_neg fr, fad_0l]
      have zE : rE (mu y1 116 r c) P := rE_row y1E (by rw [mu_rw (by decide)]) (by rw [mu_rw (by decide)]) (by rw [mu_rw (by decide)]) (fun c' c0' c1' _ => ⟨by rw [mu_ne (fun z => rn c' c0' c1' z.2)], by rw [mu_rw (by decide)]⟩)
      have z6 : mu y1 116 r c 116 r = c := mu_eq
      have zu : fun1 (mu y1 116 r c) r ((t + 1 : Nat) : Int) = mu y1 116 r c := by
        unfold fun1
        rw [if_neg]
        rintro ⟨_, u⟩
        rw [z6, zE.2.2.1] at u
        exact rn c c01.1 c01.2 u
      have nx := ih (t + 1) (mu y1 116 r c) (a + 0) (x5 + 0) (by omega) (by rw [mu_rw (by decide)]; exact y18) (fun _ => by rw [z6]; exact c01) (by rw [zu]; exact zE) (fFr_116 y1F r0 (by omega)) (by omega) (by omega)
      have := fOut_step (T := (0, 0)) (z := z) (y := mu y1 116 r c) (K1 := 1) (by decide) (fun f => by rw [st f, if_neg fr, Int.add_zero, Int.add_zero]) (fun j hj => by rw [mu_rw (by decide)]; exact y18j j hj) nx
      rw [fad_0l] at this
      rw [hR]; exact this
    rw [if_pos fr]
    have st2 : ∀ f : Nat, FX12_floors_l93 N 113 x1 x2 x3 kx (f + 1) z (w32 a) x5 (l : Int) = _ := fun f => by
      rw [st f, if_pos fr, fl_lay (w := w) (P := P) (rs := rs) hN hw (by omega) (by omega) (by omega) c01.1 c01.2 v01.1 v01.2 y1E hT fr]
    obtain ⟨z2, hz2⟩ : ∃ z2, z2 = flr y1 r c v := ⟨_, rfl⟩
    rw [← hz2] at st2
    have z2E : rE z2 (flr P r c v) := by rw [hz2]; exact rE_flr y1E hT
    have z2F : fFr n z0 z2 := by rw [hz2]; exact fFr_flr y1F r0 (by omega) c01.1 c01.2
    have z28 : z2 158 = y1 158 := by rw [hz2]; exact flr_o (by decide) (by decide) (by decide)
    -- what follows once the room's place is through
    have next : ∀ (z3 : iv_M) (a' x5' : Int), rE z3 (flr P r c v) → fFr n z0 z3 → z3 158 (l : Int) = ((t + 1 : Nat) : Int) → 0 ≤ x5' → x5' ≤ 20000 → fOut N x1 x2 x3 kx n z0 z3 P a' x5' l R (e + 1) := fun z3 a' x5' e3 f3 t3 u0 u1 => by
      obtain ⟨b1, b2⟩ := fun_back (t := ((t + 1 : Nat) : Int)) e3 hT fr c01.1 c01.2 (by omega)
      rw [hR]
      exact ih (t + 1) z3 a' x5' (by omega) t3 (fun _ => by rw [b1]; exact c01) b2 f3 u0 u1
    have over : ∀ (z3 : iv_M) (b l' : Int), 20000 < x5 + 1 → 0 ≤ l' → (∀ f : Nat, FX12_floors_l93 N 113 x1 x2 x3 kx (f + 1) z (w32 a) x5 (l : Int) = FX12_floors_l93 N 113 x1 x2 x3 kx f z3 b (x5 + 1) l') → fFr n z0 z3 → fOut N x1 x2 x3 kx n z0 z P a x5 l (fad (fon w (fun Q => flw w tn k rs Q) P r c v) R) (e + 1 + 1) := fun z3 b l' hx hl hs hf => by
      have : 1 ≤ (fon w (fun Q => flw w tn k rs Q) P r c v).2 := fon_pos (w := w) (P := P) (r := r) (c := c) (t := v) hnn
      exact fOut_over x20 hx (by show 20000 < x5 + ((fon w (fun Q => flw w tn k rs Q) P r c v).2 + R.2); omega) hl (by omega) hs hf
    by_cases g : (w && fdn (flr P r c v) r 4 0) = true
    rotate_left
    · have hs : ∀ f : Nat, FX12_floors_l93 N 113 x1 x2 x3 kx (f + 1) z (w32 a) x5 (l : Int) = FX12_floors_l93 N 113 x1 x2 x3 kx f z2 (w32 a) (x5 + 1) (l : Int) := fun f => by rw [st2 f, if_neg g]
      by_cases o : 20000 < x5 + 1
      · exact over z2 (w32 a) l o (by omega) hs z2F
      have fo : fon w (fun Q => flw w tn k rs Q) P r c v = (0, 1) := by unfold fon; rw [if_neg g]
      rw [fo]
      exact fOut_step (T := (0, 1)) (K1 := 1) (by decide) (fun f => by rw [hs f, Int.add_zero]) (fun j hj => by rw [z28]; exact y18j j hj) (next z2 (a + 0) (x5 + 1) z2E z2F (by rw [z28]; exact y18) (by omega) (by omega))
    have fo : fon w (fun Q => flw w tn k rs Q) P r c v = fad (0, 1) (flw w tn k rs (flr P r c v)) := by unfold fon; rw [if_pos g]
    by_cases last : rs = []
    · have hl : (l : Int) = x1 - 1 := by rw [last] at h1; simp at h1; omega
      have hs : ∀ f : Nat, FX12_floors_l93 N 113 x1 x2 x3 kx (f + 1) z (w32 a) x5 (l : Int) = FX12_floors_l93 N 113 x1 x2 x3 kx f (fsM z2 64) (w32 (a + (if mm (flr P r c v) = 0 then 1 else 0))) (x5 + 1) (l : Int) := fun f => by rw [st2 f, if_pos g, if_pos hl, w32_add_l]
      have fF : fFr n z0 (fsM z2 64) := fFr_fsM z2F
      by_cases o : 20000 < x5 + 1
      · exact over _ _ _ o (by omega) hs fF
      have fo2 : fon w (fun Q => flw w tn k rs Q) P r c v = ((if mm (flr P r c v) = 0 then 1 else 0), 1) := by
        rw [fo, last]
        show ((0 : Int) + (if mm (flr P r c v) = 0 then 1 else 0), (1 : Int) + 0) = _
        rw [Int.zero_add]; rfl
      rw [fo2]
      have fE : rE (fsM z2 64) (flr P r c v) := rE_row z2E (fsM_row (by decide)) (fsM_row (by decide)) (fsM_row (by decide)) (fun _ _ _ _ => by rw [fsM_row (by decide), fsM_row (by decide)]; exact ⟨rfl, rfl⟩)
      exact fOut_step (T := ((if mm (flr P r c v) = 0 then 1 else 0), 1)) (K1 := 1) (by show ((1 : Nat) : Int) ≤ 1 + 130 * 1; omega) (fun f => hs f) (fun j hj => by rw [fsM_row (by decide), z28]; exact y18j j hj) (next (fsM z2 64) _ (x5 + 1) fE fF (by rw [fsM_row (by decide), z28]; exact y18) (by omega) (by omega))
    · have hl : ¬ (l : Int) = x1 - 1 := by
        have : 0 < rs.length := List.length_pos_iff.mpr last
        omega
      obtain ⟨z3, hz3⟩ : ∃ z3, z3 = mu z2 158 ((l : Int) + 1) 0 := ⟨_, rfl⟩
      have hs : ∀ f : Nat, FX12_floors_l93 N 113 x1 x2 x3 kx (f + 1) z (w32 a) x5 (l : Int) = FX12_floors_l93 N 113 x1 x2 x3 kx f z3 (w32 a) (x5 + 1) (((l + 1 : Nat)) : Int) := fun f => by rw [st2 f, if_pos g, if_neg hl, ← hz3]; rfl
      have z3F : fFr n z0 z3 := by rw [hz3]; exact fFr_158 z2F
      by_cases o : 20000 < x5 + 1
      · exact over z3 _ _ o (by omega) hs z3F
      have z3E : rE z3 (flr P r c v) := rE_row z2E (by rw [hz3, mu_rw (by decide)]) (by rw [hz3, mu_rw (by decide)]) (by rw [hz3, mu_rw (by decide)]) (fun _ _ _ _ => by rw [hz3, mu_rw (by decide), mu_rw (by decide)]; exact ⟨rfl, rfl⟩)
      have z38 : ∀ j : Nat, j ≤ l → z3 158 j = y1 158 j := fun j hj => by rw [hz3, mu_ne (by omega), z28]
      have hSn := hnn (flr P r c v)
      rw [fo]
      rcases hd last c v z3 a (x5 + 1) c01.1 c01.2 v01.1 v01.2 fr z3E z3F (by omega) (by omega) (by rw [hz3]; exact mu_eq) with ⟨b1, K, z', b2, b3, b4, b5, b6⟩ | ⟨b1, K, z', b, x, b2, b3, b4, b5⟩
      · have fd1 : (fad (0, 1) (flw w tn k rs (flr P r c v))).1 = (flw w tn k rs (flr P r c v)).1 := Int.zero_add _
        have fd2 : (fad (0, 1) (flw w tn k rs (flr P r c v))).2 = 1 + (flw w tn k rs (flr P r c v)).2 := rfl
        refine fOut_step (T := fad (0, 1) (flw w tn k rs (flr P r c v))) (K1 := K + 1) (y := z') (by rw [fd2]; omega) (fun f => ?_) (fun j hj => by rw [b6 j (by omega), z38 j (by omega)]; exact y18j j hj) (next z' _ _ b4 b5 (by rw [b6 l (by omega), z38 l (by omega)]; exact y18) (by rw [fd2]; omega) (by rw [fd2]; omega))
        rw [← Nat.add_assoc, hs, b3, fd1, fd2, show ((l + 1 : Nat) : Int) - 1 = (l : Int) by omega, Int.add_assoc]
      · refine Or.inr ⟨?_, K + 1, z', b, x, by omega, b3, fun f => ?_, b5⟩
        · show 20000 < x5 + ((1 + (flw w tn k rs (flr P r c v)).2) + R.2); omega
        · rw [← Nat.add_assoc, hs, b4]
theorem fl_all {N : Nat} {w tn : Bool} {x1 x2 x3 n : Int} {k : Int → Int} {L : List Int} {z0 : iv_M} {kx : iv_M → Int → Int → Option (Int × iv_M)} (hN : 100 ≤ N) (hw : x2 = if w = true then 1 else 0) (h3 : (x3 = 1 ∧ tn = false) ∨ (x3 = 4 ∧ tn = true)) (h1 : x1 = L.length) (h12 : x1 ≤ 12) (hL : ∀ j : Nat, j < L.length → z0 157 j = L.getD j 0) (hk : ∀ r, r ∈ L → z0 159 r = k r ∧ 0 ≤ k r ∧ k r < 4) : ∀ (rs : List Int) (r : Int) (pre : List Int) (z P : iv_M) (a x5 : Int), L = pre ++ r :: rs → fTP (r :: rs) P → P 114 2 = n → z 158 (pre.length : Int) = 0 → rE z P → fFr n z0 z → 0 ≤ x5 → x5 ≤ 20000 → fOut N x1 x2 x3 kx n z0 z P a x5 pre.length (flw w tn k (r :: rs) P) 65 := by
  have h3' : x3 = 1 ∨ x3 = 4 := by omega
  have all : ∀ (rs : List Int) (r : Int) (P : iv_M), 0 ≤ k r → k r < 4 → flw w tn k (r :: rs) P = fsm (fs1 w x3 (k r) (fun Q => flw w tn k rs Q) P r) (16 * x3).toNat 0 := fun rs r P k0 k1 => by
    show fsm (ftm w tn (k r) (fun Q => flw w tn k rs Q) P r) 64 0 = _
    rcases h3 with ⟨u, v⟩ | ⟨u, v⟩
    · rw [u, v]; exact fs1_1 k0 k1 16 0
    · rw [u, v, fs1_4]; rfl
  intro rs
  induction rs with
  | nil =>
    intro r pre z P a x5 hp hT hn h8 hE hF x0 x20
    have lp : L.length = pre.length + 1 := by rw [hp, List.length_append]; rfl
    have hr : L.getD pre.length 0 = r := by rw [hp, List.getD_eq_getElem?_getD, List.getElem?_append_right (Nat.le_refl _)]; simp
    have hkr := hk r (by rw [hp]; simp)
    rw [all [] r P hkr.2.1 hkr.2.2]
    refine fOut_mono (kb := (16 * x3).toNat + 1) (by omega) (fl_inner (w := w) (tn := tn) (k := k) (rs := []) hN hw h3' (by rw [h1, lp]; simp) h12 (by rw [hL _ (by omega), hr]) hkr hT hn (fun z => absurd rfl z) (16 * x3).toNat 0 z a x5 (by omega) h8 (fun z => by omega) ?_ hF x0 x20)
    unfold fun1; rw [if_neg (by rintro ⟨u, _⟩; omega)]; exact hE
  | cons r2 rs2 ih =>
    intro r pre z P a x5 hp hT hn h8 hE hF x0 x20
    have lp : L.length = pre.length + 1 + (rs2.length + 1) := by rw [hp, List.length_append]; simp; omega
    have hr : L.getD pre.length 0 = r := by rw [hp, List.getD_eq_getElem?_getD, List.getElem?_append_right (Nat.le_refl _)]; simp
    have hkr := hk r (by rw [hp]; simp)
    rw [all (r2 :: rs2) r P hkr.2.1 hkr.2.2]
    refine fOut_mono (kb := (16 * x3).toNat + 1) (by omega) (fl_inner (w := w) (tn := tn) (k := k) (rs := r2 :: rs2) hN hw h3' (by rw [h1, lp]; simp) h12 (by rw [hL _ (by omega), hr]) hkr hT hn (fun _ c v y a' x5' c0 c1 v0 v1 fr yE yF u0 u1 y8 => ?_) (16 * x3).toNat 0 z a x5 (by omega) h8 (fun z => by omega) ?_ hF x0 x20)
    · have := ih r2 (pre ++ [r]) y (flr P r c v) a' x5' (by rw [hp, List.append_assoc]; rfl) (flr_TP hT c0 c1 v0 v1 fr) (by rw [flr_o (by decide) (by decide) (by decide)]; exact hn) (by rw [List.length_append]; exact y8) yE yF u0 u1
      rw [List.length_append] at this
      exact this
    · unfold fun1; rw [if_neg (by rintro ⟨u, _⟩; omega)]; exact hE
