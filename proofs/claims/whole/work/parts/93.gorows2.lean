-- ROWS OF WALKS: the class goes through them
/-- the class's laws stand, but for the mismatches last counted -/
def LRo (s : iv_M) (ql qh qf : Nat) (B : iv_M) (ru : Option (List (List (Int × Int)))) : Prop :=
  s ql 0 = qh ∧ s ql 1 = qf ∧ HB s qh B ∧ RuS s ql ru ∧ (s ql 3 = 0 ∨ s ql 3 = 1) ∧ (s ql 3 = 1 ↔ cnt B ru) ∧ s ql 4 = B 114 6
theorem LR_o {s : iv_M} {ql qh qf : Nat} {B : iv_M} {ru : Option (List (List (Int × Int)))} (h : LR s ql qh qf B ru) : LRo s ql qh qf B ru := by
  obtain ⟨l0, l1, l2, l3, l4, l5, l6, _⟩ := h
  exact ⟨l0, l1, l2, l3, l4, l5, l6⟩
theorem LRo_ext {s s' B : iv_M} {ql qh qf : Nat} {ru : Option (List (List (Int × Int)))} (h : ∀ i, i ≠ 5 → i ≠ 6 → s' ql i = s ql i) (h1 : s' qh = s qh) (h9 : s' (qh + 9) = s (qh + 9)) (hr : ∀ a, (140 ≤ a ∧ a ≤ 144) ∨ (3 ≤ a ∧ a ≤ 8) → s' a = s a) (hL : LRo s ql qh qf B ru) : LRo s' ql qh qf B ru := by
  obtain ⟨l0, l1, l2, l3, l4, l5, l6⟩ := hL
  refine ⟨by rw [h 0 (by omega) (by omega)]; exact l0, by rw [h 1 (by omega) (by omega)]; exact l1, HB_ext h1 h9 l2, ?_, by rw [h 3 (by omega) (by omega)]; exact l4, by rw [h 3 (by omega) (by omega)]; exact l5, by rw [h 4 (by omega) (by omega)]; exact l6⟩
  rcases l3 with ⟨z1, z2⟩ | ⟨f, R, z1, z2, z3, z4, z5⟩
  · left; exact ⟨z1, by rw [h 2 (by omega) (by omega)]; exact z2⟩
  · right; exact ⟨f, R, z1, z2, z3, by rw [h 2 (by omega) (by omega)]; exact z4, RUL_ext (hr 140 (by omega)) (hr 141 (by omega)) (hr 142 (by omega)) (hr 143 (by omega)) (hr 144 (by omega)) (hr _ (by omega)) z5⟩
theorem look_oo {N ql qh qf : Nat} {s B B' : iv_M} {ru : Option (List (List (Int × Int)))} (hN : 10 ≤ N) (hS : Sp ql qh qf) (hL : LRo s ql qh qf B ru) (h114 : ∀ j, j ≠ 6 → B' 114 j = B 114 j) (h6 : s ql 4 = B' 114 6) (h118 : B' 118 = B 118) (h120 : B' 120 = B 120) (hF : FRc s qf B') (hW : Wf B') : ∃ v, FX3_look N s ql = some (mu s ql 5 v) ∧ LR (mu s ql 5 v) ql qh qf B' ru := by
  obtain ⟨l0, l1, l2, l3, l4, l5, l6⟩ := hL
  obtain ⟨p1, p2, p3, p4, p5, p6, p7⟩ := Sp_f hS
  have hcn : cnt B' ru ↔ cnt B ru := by unfold cnt; rw [h114 5 (by omega)]
  have hHB : HB s qh B' := by unfold HB at l2 ⊢; rw [h114 4 (by omega), h114 3 (by omega), h114 2 (by omega), h114 5 (by omega), h118, h120]; exact l2
  have key : ∀ v, (cnt B' ru → v = mm B') → LR (mu s ql 5 v) ql qh qf B' ru := fun v hv => by
    refine ⟨by rw [mu_ne (by omega)]; exact l0, by rw [mu_ne (by omega)]; exact l1, HB_ext (mu_rw (by omega)) (mu_rw (by omega)) hHB, ?_, by rw [mu_ne (by omega)]; exact l4, by rw [mu_ne (by omega), hcn]; exact l5, by rw [mu_ne (by omega)]; exact h6, fun hc => by rw [mu_eq]; exact hv hc⟩
    rcases l3 with ⟨z1, z2⟩ | ⟨f, R, z1, z2, z3, z4, z5⟩
    · exact Or.inl ⟨z1, by rw [mu_ne (by omega)]; exact z2⟩
    · refine Or.inr ⟨f, R, z1, z2, z3, by rw [mu_ne (by omega)]; exact z4, ?_⟩
      have hq8 : ∀ a, (140 ≤ a ∧ a ≤ 144) ∨ (3 ≤ a ∧ a ≤ 8) → mu s ql 5 v a = s a := fun a ha => mu_rw (by unfold Sp at hS; omega)
      exact RUL_ext (hq8 140 (by omega)) (hq8 141 (by omega)) (hq8 142 (by omega)) (hq8 143 (by omega)) (hq8 144 (by omega)) (hq8 _ (by omega)) z5
  unfold FX3_look FX3_look_b25 FX3_look_b26
  by_cases c : cnt B' ru
  · have e3 : s ql 3 = 1 := l5.mpr (hcn.mp c)
    rw [e3, if_neg (by omega), l1, if_neg (by omega), if_neg (by omega), Int.toNat_natCast, FX1_mismatches_ok hF hW.1 hW.2.1 hN, Option.bind_some, pt_ok, Option.bind_some]
    exact ⟨mm B', rfl, key _ (fun _ => rfl)⟩
  · have e3 : s ql 3 = 0 := by
      rcases l4 with z | z
      · exact z
      · exact absurd (hcn.mpr (l5.mp z)) c
    rw [if_pos e3, pt_ok, Option.bind_some]
    exact ⟨0, rfl, key _ (fun h => absurd h c)⟩
def GrI (q n L : Nat) (ru : Option (List (List (Int × Int)))) (P : iv_M) (r : Nat) (pre : List (Int × Int)) (A : List (List (Int × Int))) (y : iv_M) (k : Int) (z : iv_M) : Prop := 0 ≤ k ∧ (LRo z 89 q 82 P ru ∧ FRc z 82 P ∧ FP z 82 P) ∧ AL z (92 + L) (okl ru P 204) ∧ Plc z pre ∧ Tot (z 97 0) (z 97) (z 96) n (A ++ extR pre (prt ru r P ((okl ru P 204).take k.toNat))) ∧ Gf L y z
theorem goRows_ok {N q n : Nat} {ru : Option (List (List (Int × Int)))} {s B : iv_M} {m : Int} (hN : 1000 ≤ N) (hq : q = 9 ∨ q = 31) (hn : n ≤ 3) (hB : WHm m B) (h6 : HR6 s q B) : ∀ (r fu : Nat) (x P : iv_M) (pre : List (Int × Int)) (A : List (List (Int × Int))), r < fu → pre.length + r = n → Lok m B P → FRc x 82 P → FP x 82 P → (r ≠ 0 → LR x 89 q 82 P ru) → (∀ a, a < 82 → a ≠ 81 → x a = s a) → Plc x pre → Tot (x 97 0) (x 97) (x 96) n A → A.length + (rowsL ru r P).length ≤ 3000000 → ∃ x', FX10_goRows N fu x 81 q (pre.length : Int) (n : Int) = some x' ∧ FRc x' 82 P ∧ FP x' 82 P ∧ (r ≠ 0 → LRo x' 89 q 82 P ru) ∧ Tot (x' 97 0) (x' 97) (x' 96) n (A ++ extR pre (rowsL ru r P)) ∧ Gf pre.length x x' := by
  intro r
  induction r with
  | zero =>
    intro fu x P pre A hfu hpl hL hF hP _ hx hpc hT hA
    obtain ⟨f, rfl⟩ : ∃ f, fu = f + 1 := ⟨fu - 1, by omega⟩
    have e10 : P 114 10 = B 114 10 := hL.2.2.1 10 (by omega)
    have h6x : HR6 x q B := by
      unfold HR6 at h6 ⊢
      rw [hx (q + 16) (by omega) (by omega), hx (q + 17) (by omega) (by omega), hx (q + 18) (by omega) (by omega), hx (q + 19) (by omega) (by omega), hx (q + 20) (by omega) (by omega), hx (q + 21) (by omega) (by omega)]; exact h6
    have wk := isAsTheyWoke_ok (N := N) (q := q) (x := x) (B := B) (P := P) (by omega) hq hF hL.1.1 h6x hB.2.1.2.2.2.2.2.2.2.1 (hL.2.2.1 2 (by omega)) hB.2.2.2.2.2.2.2.2.2 (hL.2.2.2.1 130 (by omega)) (hL.2.2.2.1 131 (by omega))
    have hr0 : rowsL ru 0 P = if wkn P (B 114 10).toNat = true then [[]] else [] := by
      unfold rowsL; rw [e10]
    show ∃ x', FX10_goRows_s N (FX10_goRows N f) x 81 q (pre.length : Int) (n : Int) = some x' ∧ _
    unfold FX10_goRows_s FX10_goRows_b10 FX10_goRows_b23
    rw [if_pos (by omega), wk, Option.bind_some, hr0]
    by_cases e : wkn P (B 114 10).toNat = true
    · have hpn : pre.length = n := by omega
      obtain ⟨x', t1, t2, t3⟩ := tally_ok (N := N) (x := x) (p := pre) (A := A) (by omega) (by omega) (by rw [hpn]; exact hT) (by omega) hpc
      rw [if_pos e, if_pos e, if_neg (by omega)]
      rw [hpn] at t1 t2
      refine ⟨x', by rw [t1, Option.bind_some], FRc_ext (fun a z0 z1 => t3 a (by omega) (by omega)) hF, FP_ext (t3 _ (by omega) (by omega)) hP, fun q => absurd rfl q, ?_, fun a ha => t3 a (by omega) (by omega), fun l hl => t3 _ (by omega) (by omega), fun l hl => by rw [t3 95 (by omega) (by omega)], fun i _ _ => by rw [t3 89 (by omega) (by omega)]⟩
      have : extR pre [[]] = [pre] := by unfold extR; simp
      rw [this]; exact t2
    · rw [if_neg e, if_neg e, if_pos rfl]
      refine ⟨x, rfl, hF, hP, fun q => absurd rfl q, ?_, Gf.refl⟩
      have : extR pre [] = [] := rfl
      rw [this, List.append_nil]; exact hT
  | succ r ih =>
    intro fu x P pre A hfu hpl hL hF hP hLR hx hpc hT hA
    obtain ⟨f, rfl⟩ : ∃ f, fu = f + 1 := ⟨fu - 1, by omega⟩
    obtain ⟨L, hLd⟩ : ∃ L, L = pre.length := ⟨_, rfl⟩
    rw [← hLd] at hpl ⊢
    have hL3 : L < 3 := by omega
    have hW := hL.1.1
    have hqa : (92 + L) = 92 ∨ (92 + L) = 93 ∨ (92 + L) = 94 := by omega
    have hsh : ((sh (92 + L)).2 : Int) = 126 := by
      rcases hqa with z | z | z <;> rw [z] <;> decide
    obtain ⟨y, l1, l2, l3, l4⟩ := FX3_list_ok (N := N) (ql := 89) (qh := q) (qf := 82) (qa := 92 + L) hN (LH_tr hq hW hL.1.2.1.1.1 hL.1.2.1.1.2 (92 + L) hqa) ⟨hLR (by omega), hF, hP⟩
    have oy : ∀ a, (a < 82 ∨ 87 < a) → a ≠ 89 → a ≠ 90 → a ≠ 92 + L → y a = x a := fun a h1 h2 h3 h4 => l4.1 a (by omega) h2 (by omega) h4
    have gxy : Gf L x y := ⟨fun a ha => oy a (by omega) (by omega) (by omega) (by omega), fun l hl => oy _ (by omega) (by omega) (by omega) (by omega), fun l hl => by rw [oy 95 (by omega) (by omega) (by omega) (by omega)], fun i h5 h6 => l4.2 i h6⟩
    have hlen := okl_stc ru P 204
    rw [stc_204] at hlen
    have hg : gx 91 3 (L : Int) = some (92 + L) := by unfold gx; rw [if_pos (by omega), Int.toNat_natCast]
    have hTy : Tot (y 97 0) (y 97) (y 96) n A := by
      rw [oy 97 (by omega) (by omega) (by omega) (by omega), oy 96 (by omega) (by omega) (by omega) (by omega)]; exact hT
    have hrow : ∀ l2 l3 : List Int, okl ru P 204 = l2 ++ l3 → (prt ru r P l2).length ≤ (rowsL ru (r + 1) P).length := fun l2 l3 he => by
      rw [rowsL_succ, he]
      obtain ⟨X, hX⟩ := prt_app (ru := ru) (r := r) (P := P) (l := l2) (l2 := l3)
      rw [hX, List.length_append]; omega
    obtain ⟨w, w1, w2⟩ := loop_up (L := fun m z i => FX10_goRows_l46 N (FX10_goRows N f) 81 q (L : Int) (n : Int) (92 + L) ((okl ru P 204).length : Int) (fun (s_1673 : iv_M) => some s_1673) m z i) (k := fun z => some z) (hi := ((okl ru P 204).length : Int)) (GrI q n L ru P r pre A y) (fun m z hz => by
        show FX10_goRows_l46 N (FX10_goRows N f) 81 q (L : Int) (n : Int) (92 + L) ((okl ru P 204).length : Int) _ (m + 1) z ((okl ru P 204).length : Int) = some z
        rw [FX10_goRows_l46, if_pos (by omega)]) (fun m k z hz hk => by
        obtain ⟨k0, ⟨z1, z2, z3⟩, zA, zP, zT, zG⟩ := hz
        obtain ⟨kn, rfl⟩ := Int.eq_ofNat_of_zero_le k0
        rw [Int.toNat_natCast] at zT
        have hkl : kn < (okl ru P 204).length := by omega
        obtain ⟨c, hc⟩ : ∃ c, c = (okl ru P 204).getD kn 0 := ⟨_, rfl⟩
        have hcm : c ∈ okl ru P 204 := by rw [hc]; exact gd_mem hkl
        have hce : (okl ru P 204)[kn] = c := by
          rw [hc, List.getD_eq_getElem?_getD, List.getElem?_eq_getElem hkl]; rfl
        obtain ⟨c0, c1, c2, c3, c4⟩ := okc_walk hcm
        have htk : (okl ru P 204).take (kn + 1) = (okl ru P 204).take kn ++ [c] := by rw [← List.take_append_getElem hkl, hce]
        have htl : ((okl ru P 204).take kn).length = kn := by rw [List.length_take]; omega
        have hwk : wkc P c = wlk P (cK c) (cR c) (cO c) := rfl
        have hrw : z (92 + L) kn = wcd c := by
          have := zA kn hkl
          rw [this, hc]
        obtain ⟨z', hz'⟩ : ∃ z', z' = mu z 95 (L : Int) (kn : Int) := ⟨_, rfl⟩
        have oz' : ∀ a, a ≠ 95 → z' a = z a := fun a ha => by rw [hz', mu_rw ha]
        obtain ⟨g, g1, g2, g3, g4⟩ := go_ok (N := N) (q := 82) (s := z') (B := P) (by omega) TF_82 hW (FRc_ext (fun a y0 y1 => oz' a (by omega)) z2) (FP_ext (oz' _ (by omega)) z3) c2 c3
        have og : ∀ a, (a < 82 ∨ 87 < a) → g a = z' a := fun a ha => by funext i; exact g4 a i ha
        have hLg : LRo g 89 q 82 P ru := LRo_ext (fun i _ _ => by rw [og 89 (by omega), oz' 89 (by omega)]) (by rw [og q (by omega), oz' q (by omega)]) (by rw [og (q + 9) (by omega), oz' (q + 9) (by omega)]) (fun a ha => by rw [og a (by omega), oz' a (by omega)]) z1
        have key : ∀ h : iv_M, FRc h 82 (wkc P c) → FP h 82 (wkc P c) → (r ≠ 0 → LR h 89 q 82 (wkc P c) ru) → (∀ a, (a < 82 ∨ 87 < a) → a ≠ 89 → h a = g a) → (∀ i, i ≠ 5 → h 89 i = g 89 i) → ∃ z2, FX10_goRows_b87 N (FX10_goRows N f) h 81 q (L : Int) (n : Int) (92 + L) ((okl ru P 204).length : Int) (kn : Int) (FX10_goRows_l46 N (FX10_goRows N f) 81 q (L : Int) (n : Int) (92 + L) ((okl ru P 204).length : Int) (fun (s_1673 : iv_M) => some s_1673) m) (fun (s_1673 : iv_M) => some s_1673) = FX10_goRows_l46 N (FX10_goRows N f) 81 q (L : Int) (n : Int) (92 + L) ((okl ru P 204).length : Int) (fun (s_1673 : iv_M) => some s_1673) m z2 ((kn : Int) + 1) ∧ GrI q n L ru P r pre A y ((kn : Int) + 1) z2 := by
          intro h hF' hP' hLR' oh oh9
          have oh2 : ∀ a, (a < 82 ∨ 87 < a) → a ≠ 89 → a ≠ 95 → h a = z a := fun a h1 h2 h3 => by rw [oh a h1 h2, og a h1, oz' a h3]
          have h95 : ∀ i, i ≠ (L : Int) → h 95 i = z 95 i := fun i hi => by rw [oh 95 (by omega) (by omega), og 95 (by omega), hz', mu_ne (by omega)]
          have h95L : h 95 (L : Int) = (kn : Int) := by rw [oh 95 (by omega) (by omega), og 95 (by omega), hz', mu_eq]
          have hplen : (pre ++ [((kn : Int), c)]).length = L + 1 := by rw [List.length_append, ← hLd]; rfl
          have hPl' : Plc h (pre ++ [((kn : Int), c)]) := fun l hl => by
            rw [hplen] at hl
            by_cases el : l = L
            · subst el
              have : gP (pre ++ [((kn : Int), c)]) (l : Int) = ((kn : Int), c) := by
                rw [gP_at (by rw [hplen]; omega), List.getElem_append_right (by omega)]
                simp [← hLd]
              rw [this]
              exact ⟨h95L, ⟨by show (0 : Int) ≤ kn; omega, by show (kn : Int) < 126; omega⟩, by rw [oh2 _ (by omega) (by omega) (by omega)]; exact hrw, c0, by show c < 204; omega⟩
            · have hlL : l < pre.length := by omega
              have : gP (pre ++ [((kn : Int), c)]) (l : Int) = gP pre (l : Int) := by
                rw [gP_at (by rw [hplen]; omega), gP_at hlL, List.getElem_append_left hlL]
              rw [this, h95 _ (by omega), oh2 (92 + l) (by omega) (by omega) (by omega)]
              exact zP l hlL
          have hTh : Tot (h 97 0) (h 97) (h 96) n (A ++ extR pre (prt ru r P ((okl ru P 204).take kn))) := by
            rw [oh2 97 (by omega) (by omega) (by omega), oh2 96 (by omega) (by omega) (by omega)]; exact zT
          have hbound : (A ++ extR pre (prt ru r P ((okl ru P 204).take kn))).length + (rowsL ru r (wkc P c)).length ≤ 3000000 := by
            have := hrow ((okl ru P 204).take (kn + 1)) ((okl ru P 204).drop (kn + 1)) (List.take_append_drop _ _).symm
            rw [htk, prt_snoc, List.length_append, List.length_map] at this
            rw [List.length_append, extR_len]
            omega
          obtain ⟨w, i1, i2, i3, i4, i5, i6⟩ := ih f h (wkc P c) (pre ++ [((kn : Int), c)]) _ (by omega) (by rw [hplen]; omega) (hL.wk c2 c3) hF' hP' hLR' (fun a ha ha2 => by rw [oh2 a (by omega) (by omega) (by omega), zG.1 a (by omega), gxy.1 a (by omega), hx a ha ha2]) hPl' hTh hbound
          rw [hplen] at i1 i6
          have i5' : Tot (w 97 0) (w 97) (w 96) n (A ++ extR pre (prt ru r P ((okl ru P 204).take (kn + 1)))) := by
            rw [htk, prt_snoc, extR_app, htl, extR_cons, ← List.append_assoc]; exact i5
          obtain ⟨v, b1, b2, b3, b4⟩ := bk_ok (N := N) (q := 82) (s := w) (B := P) (by omega) TF_82 hW c2 c3 i2 i3
          have ov : ∀ a, (a < 82 ∨ 87 < a) → v a = w a := fun a ha => by funext i; exact b4 a i ha
          have hw92 : w (92 + L) = z (92 + L) := by rw [i6.2.1 L (by omega), oh2 _ (by omega) (by omega) (by omega)]
          have v89 : ∀ i, i ≠ 5 → i ≠ 6 → v 89 i = z 89 i := fun i h5 h6 => by rw [ov 89 (by omega), i6.2.2.2 i h5 h6, oh9 i h5, og 89 (by omega), oz' 89 (by omega)]
          have vlow : ∀ a, (a < 82 ∨ 97 < a ∨ a = 91) → v a = z a := fun a ha => by rw [ov a (by omega), i6.1 a ha, oh2 a (by omega) (by omega) (by omega)]
          refine ⟨v, ?_, by omega, ⟨?_, ?_, ?_⟩, ?_, ?_, ?_, ?_⟩
          · unfold FX10_goRows_b87
            simp only [Nat.reduceAdd]
            have hi1 : FX10_goRows N f h 81 q ((L : Int) + 1) (n : Int) = some w := by
              have := i1
              rw [show ((L + 1 : Nat) : Int) = (L : Int) + 1 by omega] at this; exact this
            rw [w32_id (x := (L : Int) + 1) (by omega) (by omega), hi1, Option.bind_some, hsh, rd_ok (by omega) (by omega), Option.bind_some, hw92, hrw]
            unfold FX1_goBack wcd
            rw [b1, Option.bind_some, Option.bind_some, w32_id (by omega) (by omega)]
          · exact LRo_ext (fun i h5 h6 => v89 i h5 h6) (vlow q (by omega)) (vlow (q + 9) (by omega)) (fun a ha => vlow a (by omega)) z1
          · exact b2
          · exact b3
          · exact AL_ext (by rw [ov _ (by omega), hw92]) zA
          · intro l hl
            rw [ov 95 (by omega), ov (92 + l) (by omega), i6.2.2.1 l (by omega), i6.2.1 l (by omega), h95 _ (by omega), oh2 (92 + l) (by omega) (by omega) (by omega)]
            exact zP l hl
          · rw [ov 97 (by omega), ov 96 (by omega), show ((kn : Int) + 1).toNat = kn + 1 by omega]
            exact i5'
          · refine zG.trans ⟨fun a ha => vlow a ha, fun l hl => ?_, fun l hl => ?_, fun i h5 h6 => v89 i h5 h6⟩
            · rw [ov (92 + l) (by omega), i6.2.1 l (by omega), oh2 (92 + l) (by omega) (by omega) (by omega)]
            · rw [ov 95 (by omega), i6.2.2.1 l (by omega), h95 _ (by omega)]
        have start : ∀ kk, FX10_goRows_l46 N (FX10_goRows N f) 81 q (L : Int) (n : Int) (92 + L) ((okl ru P 204).length : Int) kk (m + 1) z (kn : Int) = (if (n : Int) ≤ (L : Int) + 1 then (FX10_goRows_b87 N (FX10_goRows N f) g 81 q (L : Int) (n : Int) (92 + L) ((okl ru P 204).length : Int) (kn : Int) (FX10_goRows_l46 N (FX10_goRows N f) 81 q (L : Int) (n : Int) (92 + L) ((okl ru P 204).length : Int) kk m) kk) else ((FX3_look N g 89).bind fun s_1687 => (FX10_goRows_b87 N (FX10_goRows N f) s_1687 81 q (L : Int) (n : Int) (92 + L) ((okl ru P 204).length : Int) (kn : Int) (FX10_goRows_l46 N (FX10_goRows N f) 81 q (L : Int) (n : Int) (92 + L) ((okl ru P 204).length : Int) kk m) kk))) := fun kk => by
          rw [FX10_goRows_l46, if_neg (by omega)]
          simp only [Nat.reduceAdd]
          rw [wr_ok (by omega) (by omega), Option.bind_some, ← hz', hsh, rd_ok (by omega) (by omega), Option.bind_some, oz' (92 + L) (by omega), hrw]
          unfold FX1_go wcd
          rw [g1, Option.bind_some, Option.bind_some, w32_id (x := (L : Int) + 1) (by omega) (by omega)]
        show ∃ z2, FX10_goRows_l46 N (FX10_goRows N f) 81 q (L : Int) (n : Int) (92 + L) ((okl ru P 204).length : Int) (fun (s_1673 : iv_M) => some s_1673) (m + 1) z (kn : Int) = FX10_goRows_l46 N (FX10_goRows N f) 81 q (L : Int) (n : Int) (92 + L) ((okl ru P 204).length : Int) (fun (s_1673 : iv_M) => some s_1673) m z2 ((kn : Int) + 1) ∧ GrI q n L ru P r pre A y ((kn : Int) + 1) z2
        rw [start]
        by_cases er : r = 0
        · rw [if_pos (by omega)]
          exact key g g2 g3 (fun q => absurd er q) (fun a _ _ => rfl) (fun i _ => rfl)
        · have w4 : wlk P (cK c) (cR c) (cO c) 114 = P 114 := wlk_row (by omega) (by omega) (by omega)
          obtain ⟨u, k1, k2⟩ := look_oo (N := N) (B' := wlk P (cK c) (cR c) (cO c)) (by omega) (Sp_tr hq) hLg (fun j _ => by rw [w4]) (by rw [w4]; exact hLg.2.2.2.2.2.2) (wlk_row (by omega) (by omega) (by omega)) (wlk_row (by omega) (by omega) (by omega)) g2 (Wf_wlk hW c2 c3)
          rw [if_neg (by omega), k1, Option.bind_some]
          exact key (mu g 89 5 u) (FRc_ext (fun a y0 y1 => mu_rw (by omega)) g2) (FP_ext (mu_rw (by omega)) g3) (fun _ => k2) (fun a _ h9 => mu_rw h9) (fun i hi => mu_ne (by omega))) N 0 y ⟨by omega, ⟨LR_o l2.1, l2.2.1, l2.2.2⟩, l3, gxy.plc (by omega) hpc, by
          show Tot (y 97 0) (y 97) (y 96) n (A ++ extR pre (prt ru r P []))
          rw [prt_nil, show extR pre [] = [] from rfl, List.append_nil]; exact hTy, Gf.refl⟩ (by omega) (by omega)
    obtain ⟨_, v1, _, _, v5, v6⟩ := w1
    rw [Int.toNat_natCast, List.take_length, ← rowsL_succ] at v5
    refine ⟨w, ?_, v1.2.1, v1.2.2, fun _ => v1.1, v5, gxy.trans v6⟩
    show FX10_goRows_s N (FX10_goRows N f) x 81 q (L : Int) (n : Int) = some w
    unfold FX10_goRows_s
    simp only [Nat.reduceAdd]
    rw [if_neg (by omega), if_pos (by omega), hg, Option.bind_some, l1, Option.bind_some]
    exact w2
