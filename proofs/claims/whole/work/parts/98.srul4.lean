-- RULE: steps behind a value
theorem next_b {N : Nat} {c : iv_M} {x : Int} {r : Int × iv_M} (h0 : c 57 5 ≠ 0) (h1 : c 57 5 ≠ 1) (h2 : c 57 5 ≠ 2) (hr : FX8_readBehind N c 57 x = some r) (h01 : r.1 = 0 ∨ r.1 = 1) : FX8_readNext N c 57 x = some r := by
  unfold FX8_readNext
  rw [if_neg h0, if_neg h1, if_neg h2, hr, Option.bind_some]
  dsimp only
  rw [if_pos h01]
theorem next_arith {N : Nat} {c : iv_M} {b : Int → Int} {L p fr : Int} {E : List (Int × Int)} {X Y : List Int} {stg cmp cl dep br cnt : Int} (hN : 1000 ≤ N) (hT : TX b L) (p0 : 0 ≤ p) (p1 : p ≤ L) (hst : stg = 3 ∨ stg = 4) (ha : ark (sg b L p) ≠ 0) (hP : Prt (rnk (ark (sg b L p))) X Y) (hR : RD c 58 b L p fr 0) (h : CK c E (X ++ Y) stg cmp cl dep br cnt) (hl : E.length + X.length ≤ 400) (hw : X.length + Y.length ≤ 63) (d0 : n9 X - 1000 ≤ dep) (d1 : dep ≤ 1000) : ∃ c', FX8_readNext N c 57 (sg b L p) = some (1, c') ∧ RD c' 58 b L (p + 1) fr 0 ∧ CK c' (E ++ em X) (ark (sg b L p) :: Y) 2 cmp cl (dep - n9 X) br cnt ∧ FrC c c' := by
  have hL := hT.2.1
  have h5 := h.2.2.1
  obtain ⟨k, hk⟩ : ∃ k, k = ark (sg b L p) := ⟨_, rfl⟩
  rw [← hk] at ha hP ⊢
  have kk : isK k ∧ k ≠ 12 := by
    rcases ark_rg (s := sg b L p) with u | u
    · rw [← hk] at u; exact absurd u ha
    · rw [← hk] at u; exact ⟨u.1, u.2.1⟩
  have wn : ¬ wco k = -1 := by
    rcases isK_all kk.1 with e | e | e | e | e | e | e | e | e | e | e | e | e | e <;> rw [e] <;> decide
  obtain ⟨c1, a1, a2, a3⟩ := join_ok (N := N) (k := k) hN (CK_m (i := 2) (v := p + 1) h) kk.1 hP kk.2 hl hw d0 d1
  have k1 := CK_f (i := 5) (v := 2) a2 (by omega) (by omega)
  simp only [Int.reduceEq, if_true, if_false] at k1
  refine ⟨mu c1 57 5 2, next_b (by rw [h5]; omega) (by rw [h5]; omega) (by rw [h5]; omega) ?_ (Or.inr rfl), RD_3x (RD_3x (RD_2 hR) a3) mu_fr, k1, ?_⟩
  · unfold FX8_readBehind FX8_readBehind_b16
    simp only [Nat.reduceAdd]
    rw [h5, if_neg (by omega), arith_ok, Option.bind_some, ← hk, if_neg ha, if_neg wn, pt_ok, Option.bind_some, hR.2.2.1, w32_id (by omega) (by omega), a1, Option.bind_some, pt_ok, Option.bind_some]
  · exact FrC.trans (fun a x1 x2 x3 x4 => mu_rw x2) ((a3.c).trans (Fr3.c mu_fr))
def ck (b : Int → Int) (L p : Int) : Int := if sg b L p = 60 then (if sg b L (p + 1) = 61 then 5 else 4) else if sg b L p = 61 then 6 else if sg b L p = 62 then (if sg b L (p + 1) = 61 then 7 else 8) else 0
def cln (b : Int → Int) (L p : Int) : Int := if (sg b L p = 60 ∨ sg b L p = 62) ∧ sg b L (p + 1) = 61 then 2 else 1
theorem ck_rg {b : Int → Int} {L p : Int} : ck b L p = 0 ∨ (4 ≤ ck b L p ∧ ck b L p ≤ 8) := by
  unfold ck; repeat' split
  all_goals omega
theorem ck_0 {b : Int → Int} {L p : Int} : ck b L p = 0 ↔ ¬ (sg b L p = 60 ∨ sg b L p = 61 ∨ sg b L p = 62) := by
  unfold ck; repeat' split
  all_goals omega
theorem next_cmp {N : Nat} {c : iv_M} {b : Int → Int} {L p fr : Int} {E : List (Int × Int)} {X Y : List Int} {cmp cl dep br cnt : Int} (hN : 1000 ≤ N) (hT : TX b L) (p0 : 0 ≤ p) (p1 : p ≤ L) (ha : ark (sg b L p) = 0) (hc : ck b L p ≠ 0) (hP : Prt 4 X Y) (hR : RD c 58 b L p fr 0) (h : CK c E (X ++ Y) 3 cmp cl dep br cnt) (hl : E.length + X.length ≤ 400) (hw : X.length + Y.length ≤ 63) (d0 : n9 X - 1000 ≤ dep) (d1 : dep ≤ 1000) (c0 : 0 ≤ cnt) (c1 : cnt ≤ 1000) : ∃ c', FX8_readNext N c 57 (sg b L p) = some (1, c') ∧ RD c' 58 b L (p + cln b L p) fr (cFt 0 cnt p) ∧ CK c' (E ++ em X) (ck b L p :: Y) 2 1 cl (dep - n9 X) br (cnt + 1) ∧ FrC c c' := by
  have hL := hT.2.1
  have h5 := h.2.2.1
  obtain ⟨k, hk⟩ : ∃ k, k = ck b L p := ⟨_, rfl⟩
  obtain ⟨m, hm⟩ : ∃ m, m = cln b L p := ⟨_, rfl⟩
  have m12 : m = 1 ∨ m = 2 := by rw [hm]; unfold cln; split <;> omega
  have kr : 4 ≤ k ∧ k ≤ 8 := by rcases ck_rg (b := b) (L := L) (p := p) with u | u; exact absurd u hc; rw [hk]; exact u
  have hK : isK k := by unfold isK; omega
  have rk4 : rnk k = 4 := by unfold rnk; rw [if_neg (by omega), if_neg (by omega), if_neg (by omega), if_neg (by omega), if_pos kr]
  have wk : wco k = k := by
    have : k = 4 ∨ k = 5 ∨ k = 6 ∨ k = 7 ∨ k = 8 := by omega
    rcases this with e | e | e | e | e <;> rw [e] <;> decide
  rw [← hk, ← hm]
  have hs : sg b L p = 60 ∨ sg b L p = 61 ∨ sg b L p = 62 := by
    by_cases z : sg b L p = 60 ∨ sg b L p = 61 ∨ sg b L p = 62
    · exact z
    · exact absurd (ck_0.mpr z) hc
  have pL : p < L := by
    by_cases z : p < L
    · exact z
    · have : sg b L p = -1 := by unfold sg; rw [if_neg z]
      omega
  have hR1 : RD (mu c 58 2 (p + m)) 58 b L (p + m) fr 0 := RD_2 hR
  obtain ⟨y1, a1, a2, a3, a4⟩ := countOne_ok (N := N) (x := p) hR1 (CK_m (i := 2) (v := p + m) h) c0 c1 p0 (by omega)
  obtain ⟨y2, b1, b2, b3⟩ := join_ok (N := N) (k := k) hN a3 hK (by rw [rk4]; exact hP) (by omega) hl hw d0 d1
  rw [wk] at b1
  have k1 := CK_f (i := 6) (v := 1) b2 (by omega) (by omega)
  simp only [Int.reduceEq, if_true, if_false] at k1
  have k2 := CK_f (i := 5) (v := 2) k1 (by omega) (by omega)
  simp only [Int.reduceEq, if_true, if_false] at k2
  refine ⟨mu (mu y2 57 6 1) 57 5 2, next_b (by rw [h5]; omega) (by rw [h5]; omega) (by rw [h5]; omega) ?_ (Or.inr rfl), RD_3x (RD_3x (RD_3x a2 b3) mu_fr) mu_fr, k2, ?_⟩
  · have last : ∀ (kk : Int), kk = k → ((FX8_join N y1 57 kk).bind fun s_1282 => (FX8_readComparison_b147 N s_1282 57)) = some (mu (mu y2 57 6 1) 57 5 2) := fun kk e => by
      unfold FX8_readComparison_b147
      rw [e, b1, Option.bind_some, pt_ok, Option.bind_some, pt_ok, Option.bind_some]
    have b90 : ∀ (x3 : Int), (if sg b L p = 60 then (if x3 = 0 then k = 4 else k = 5) else if sg b L p = 62 then (if x3 = 0 then k = 8 else k = 7) else k = 6) → FX8_readComparison_b90 N (mu c 58 2 (p + m)) 57 (sg b L p) p x3 = some (mu (mu y2 57 6 1) 57 5 2) := fun x3 e => by
      unfold FX8_readComparison_b90 FX8_readComparison_b111 FX8_readComparison_b135
      rw [a1, Option.bind_some]
      by_cases g : sg b L p = 60
      · rw [if_pos g] at e
        rw [if_pos g]
        by_cases z : x3 = 0
        · rw [if_pos z] at e; rw [if_pos z]; exact last 4 e.symm
        · rw [if_neg z] at e; rw [if_neg z]; exact last 5 e.symm
      · rw [if_neg g] at e
        rw [if_neg g]
        by_cases g2 : sg b L p = 62
        · rw [if_pos g2] at e
          rw [if_pos g2]
          by_cases z : x3 = 0
          · rw [if_pos z] at e; rw [if_pos z]; exact last 8 e.symm
          · rw [if_neg z] at e; rw [if_neg z]; exact last 7 e.symm
        · rw [if_neg g2] at e
          rw [if_neg g2]
          exact last 6 e.symm
    have b36 : FX8_readComparison_b36 N c 57 (sg b L p) p = some (mu (mu y2 57 6 1) 57 5 2) := by
      unfold FX8_readComparison_b36 FX8_readComparison_b71 FX8_readComparison_b72
      simp only [Nat.reduceAdd]
      have q1 : RD (mu c 58 2 (p + 1)) 58 b L (p + 1) fr 0 := RD_2 hR
      rw [pt_ok, Option.bind_some, hR.2.2.1, w32_id (x := p + 1) (by omega) (by omega), if_pos trivial, if_neg (show ¬ (1 : Int) = 0 by decide), pt_ok, Option.bind_some, mu_eq, w32_id (x := p + 1 + 1) (by omega) (by omega), mu_mu]
      by_cases g : sg b L p = 61
      · have m1 : m = 1 := by rw [hm]; unfold cln; rw [if_neg (by omega)]
        have k6 : k = 6 := by rw [hk]; unfold ck; rw [if_neg (by omega), if_pos g]
        rw [if_pos g]
        have := b90 0 (by rw [if_neg (by omega), if_neg (by omega)]; exact k6)
        rw [m1] at this; exact this
      · rw [if_neg g, here_ok q1 hT (by omega), Option.bind_some]
        by_cases g2 : sg b L (p + 1) = 61
        · have m2 : m = 2 := by rw [hm]; unfold cln; rw [if_pos ⟨by omega, g2⟩]
          rw [if_pos g2]
          have := b90 1 (by
            by_cases g3 : sg b L p = 60
            · rw [if_pos g3, if_neg (by decide), hk]; unfold ck; rw [if_pos g3, if_pos g2]
            · rw [if_neg g3, if_pos (by omega), if_neg (by decide), hk]; unfold ck; rw [if_neg g3, if_neg g, if_pos (by omega), if_pos g2])
          rw [m2] at this
          rw [show p + 1 + 1 = p + 2 by omega]; exact this
        · have m1 : m = 1 := by rw [hm]; unfold cln; rw [if_neg (fun z => g2 z.2)]
          rw [if_neg g2]
          have := b90 0 (by
            by_cases g3 : sg b L p = 60
            · rw [if_pos g3, if_pos rfl, hk]; unfold ck; rw [if_pos g3, if_neg g2]
            · rw [if_neg g3, if_pos (by omega), if_pos rfl, hk]; unfold ck; rw [if_neg g3, if_neg g, if_pos (by omega), if_neg g2])
          rw [m1] at this; exact this
    unfold FX8_readBehind FX8_readBehind_b16 FX8_readComparison
    simp only [Nat.reduceAdd]
    rw [h5, if_neg (by decide), arith_ok, Option.bind_some, if_pos ha, if_pos rfl, if_pos rfl, hR.2.2.1, b36]
    rcases hs with e | e | e
    · rw [if_pos e, Option.bind_some]
    · rw [if_neg (by omega), if_pos e, Option.bind_some]
    · rw [if_neg (by omega), if_neg (by omega), if_pos e, Option.bind_some]
  · exact FrC.trans (fun a x1 x2 x3 x4 => mu_rw x2) (a4.trans ((b3.c).trans ((Fr3.c mu_fr).trans (Fr3.c mu_fr))))
theorem next_cmpbad {N : Nat} {c : iv_M} {b : Int → Int} {L p fr : Int} {E : List (Int × Int)} {W : List Int} {cmp cl dep br cnt : Int} (hT : TX b L) (p0 : 0 ≤ p) (p1 : p ≤ L) (ha : ark (sg b L p) = 0) (hc : ck b L p = 0) (hR : RD c 58 b L p fr 0) (h : CK c E W 3 cmp cl dep br cnt) : ∃ c', FX8_readNext N c 57 (sg b L p) = some (1, c') ∧ c' 58 4 = ffl 0 p 0 ∧ FrC c c' := by
  have hL := hT.2.1
  have h5 := h.2.2.1
  have hs := ck_0.mp hc
  refine ⟨mu c 58 4 (ffl 0 p 0), next_b (by rw [h5]; omega) (by rw [h5]; omega) (by rw [h5]; omega) ?_ (Or.inr rfl), mu_eq, fun a x1 x2 x3 x4 => mu_rw x2⟩
  unfold FX8_readBehind FX8_readBehind_b16 FX8_readComparison
  simp only [Nat.reduceAdd]
  rw [h5, if_neg (by decide), arith_ok, Option.bind_some, if_pos ha, if_pos rfl, if_pos rfl, if_neg (by omega), if_neg (by omega), if_neg (by omega), hR.2.2.1, fail_ok p0 (by omega) (by omega) (by omega), Option.bind_some, hR.2.2.2.2.1, Option.bind_some]
/-- at the end of a fact: neither a sum goes on, nor a bracket's inside -/
def endF (stg a : Int) : Prop := stg = 5 ∨ (stg = 4 ∧ a = 0)
theorem b16_of {N : Nat} {c : iv_M} {x stg : Int} (h5 : c 57 5 = stg) (he : endF stg (ark x)) : FX8_readBehind N c 57 x = FX8_readBehind_b16 N c 57 x (-1) := by
  unfold FX8_readBehind
  rcases he with u | ⟨u, v⟩
  · rw [if_pos (by rw [h5]; exact u)]
  · rw [if_neg (by rw [h5]; omega), arith_ok, Option.bind_some, if_pos v]
theorem next_joint {N : Nat} {c : iv_M} {b : Int → Int} {L p fr : Int} {E : List (Int × Int)} {X Y : List Int} {stg cmp cl dep br cnt k : Int} (hN : 1000 ≤ N) (hT : TX b L) (p0 : 0 ≤ p) (p1 : p ≤ L) (hbl : bl b L p = p) (he : endF stg (ark (sg b L p))) (hlt : 97 ≤ sg b L p ∧ sg b L p ≤ 122) (hk : k = if idw b p (el b L p) [wAnd, wOr] 0 = 0 then 10 else 11) (hP : Prt (rnk k) X Y) (hR : RD c 58 b L p fr 0) (h : CK c E (X ++ Y) stg cmp cl dep br cnt) (hl : E.length + X.length ≤ 400) (hw : X.length + Y.length ≤ 63) (d0 : n9 X - 1000 ≤ dep) (d1 : dep ≤ 1000) : ∃ c', FX8_readNext N c 57 (sg b L p) = some (1, c') ∧ RD c' 58 b L (el b L p) p (wft b p (el b L p) [wAnd, wOr] 0) ∧ CK c' (E ++ em X) (k :: Y) 1 cmp cl (dep - n9 X) br cnt ∧ FrC c c' := by
  have hL := hT.2.1
  have h5 := h.2.2.1
  have rw1 := readWord_ok (N := N) (ws := [wAnd, wOr]) hN hR hT str_ao (by decide) (by decide) (by decide) p0 (by omega)
  rw [hbl] at rw1
  have kk : isK k ∧ k ≠ 12 := by rw [hk]; unfold isK; split <;> decide
  obtain ⟨y, a1, a2, a3⟩ := join_ok (N := N) (k := k) hN (CK_rd (x := el b L p) (y := p) (z := wft b p (el b L p) [wAnd, wOr] 0) h) kk.1 hP kk.2 hl hw d0 d1
  have k1 := CK_f (i := 5) (v := 1) a2 (by omega) (by omega)
  simp only [Int.reduceEq, if_true, if_false] at k1
  have s5 : stg ≠ 3 ∧ stg ≠ 0 ∧ stg ≠ 1 ∧ stg ≠ 2 := by rcases he with u | ⟨u, _⟩ <;> omega
  refine ⟨mu y 57 5 1, next_b (by rw [h5]; exact s5.2.1) (by rw [h5]; exact s5.2.2.1) (by rw [h5]; exact s5.2.2.2) ?_ (Or.inr rfl), RD_3x (RD_3x (rdM_RD hR) a3) mu_fr, k1, (rd_fr.trans a3.c).trans (Fr3.c mu_fr)⟩
  rw [b16_of h5 he]
  unfold FX8_readBehind_b16 FX8_readBehind_b87
  simp only [Nat.reduceAdd]
  rw [if_pos trivial, if_neg (by rw [h5]; exact s5.1), isLetter_ok, Option.bind_some, if_pos hlt, if_neg (by decide), rw1, Option.bind_some]
  dsimp only
  by_cases g : idw b p (el b L p) [wAnd, wOr] 0 = 0
  · rw [if_pos g] at hk
    have : wco k = 2 := by rw [hk]; decide
    rw [this] at a1
    rw [if_pos g, a1, Option.bind_some, pt_ok, Option.bind_some]
  · rw [if_neg g] at hk
    have : wco k = 1 := by rw [hk]; decide
    rw [this] at a1
    rw [if_neg g, a1, Option.bind_some, pt_ok, Option.bind_some]
theorem close_of {N : Nat} {c : iv_M} {x stg : Int} {r : Int × iv_M} (h5 : c 57 5 = stg) (he : endF stg (ark x)) (hlt : ¬ (97 ≤ x ∧ x ≤ 122)) (hr : FX8_readClosing N c 57 x = some r) (h01 : r.1 = 0 ∨ r.1 = 1) : FX8_readNext N c 57 x = some r := by
  have s5 : stg ≠ 3 ∧ stg ≠ 0 ∧ stg ≠ 1 ∧ stg ≠ 2 := by rcases he with u | ⟨u, _⟩ <;> omega
  refine next_b (by rw [h5]; exact s5.2.1) (by rw [h5]; exact s5.2.2.1) (by rw [h5]; exact s5.2.2.2) ?_ h01
  rw [b16_of h5 he]
  unfold FX8_readBehind_b16
  rw [if_pos rfl, if_neg (by rw [h5]; exact s5.1), isLetter_ok, Option.bind_some, if_neg hlt, if_pos rfl, hr, Option.bind_some]
  dsimp only
  rw [if_pos h01]
theorem rk_1 : rk 1 = some 1 := by decide
theorem next_close {N : Nat} {c : iv_M} {b : Int → Int} {L p fr : Int} {E : List (Int × Int)} {X O : List Int} {stg cmp cl dep br cnt : Int} (hN : 1000 ≤ N) (hT : TX b L) (p0 : 0 ≤ p) (p1 : p ≤ L) (hs : sg b L p = 93) (he : endF stg (ark (sg b L p))) (hP : Prt 1 X (12 :: O)) (hR : RD c 58 b L p fr 0) (h : CK c E (X ++ 12 :: O) stg cmp cl dep br cnt) (hl : E.length + X.length ≤ 400) (hw : X.length + (O.length + 1) ≤ 63) (d0 : n9 X - 900 ≤ dep) (d1 : dep ≤ 1000) (b0 : 0 < br) (b1 : br ≤ 1000) : ∃ c', FX8_readNext N c 57 (sg b L p) = some (1, c') ∧ RD c' 58 b L (p + 1) fr 0 ∧ CK c' (E ++ em X) O 5 cmp cl (dep - n9 X - 1) (br - 1) cnt ∧ FrC c c' := by
  have hL := hT.2.1
  have h5 := h.2.2.1
  have h9 := h.2.2.2.2.2.2.1
  obtain ⟨y, a1, a2, a3⟩ := release_l (N := N) (Y := 12 :: O) (rho := 1) (kx := fun (s_1231 : iv_M) => (FX8_release_b79 N s_1231)) (fun j ys hy => ⟨hP.2.1 j (by rw [hy]; exact List.mem_cons_self), hP.2.2 j ys hy⟩) (by omega) X N (mu c 58 2 (p + 1)) E dep hP.1 (CK_m h) hl (by simp; omega) (by omega) (by omega) d1
  have k1 := CK_f (i := 9) (v := br - 1) a2 (by omega) (by omega)
  simp only [Int.reduceEq, if_true, if_false] at k1
  have n9x := n9_nn X
  have k2 := CK_f (i := 8) (v := dep - n9 X - 1) k1 (by omega) (by omega)
  simp only [Int.reduceEq, if_true, if_false] at k2
  have k3 := CK_pop (W := O) k2
  have k4 := CK_f (i := 5) (v := 5) k3 (by omega) (by omega)
  simp only [Int.reduceEq, if_true, if_false] at k4
  have rel : FX8_release N (mu c 58 2 (p + 1)) 57 1 = some y := by unfold FX8_release; rw [a1]; rfl
  refine ⟨mu (mu (mu (mu y 57 9 (br - 1)) 57 8 (dep - n9 X - 1)) 57 4 (O.length : Int)) 57 5 5, close_of h5 he (by omega) ?_ (Or.inr rfl), RD_3x (RD_3x (RD_3x (RD_3x (RD_3x (RD_2 hR) a3) mu_fr) mu_fr) mu_fr) mu_fr, k4, FrC.trans (fun a x1 x2 x3 x4 => mu_rw x2) ((a3.c).trans (((Fr3.c mu_fr).trans (Fr3.c mu_fr)).trans ((Fr3.c mu_fr).trans (Fr3.c mu_fr))))⟩
  have w4 : mu (mu y 57 9 (br - 1)) 57 8 (dep - n9 X - 1) 57 4 = (O.length : Int) + 1 := by
    have := k2.2.1.1
    rw [this]; simp
  unfold FX8_readClosing
  simp only [Nat.reduceAdd]
  rw [if_pos hs, h9, if_neg (by omega), pt_ok, Option.bind_some, hR.2.2.1, w32_id (x := p + 1) (by omega) (by omega), rk_1, Option.bind_some, rel, Option.bind_some, pt_ok, Option.bind_some, a2.2.2.2.2.2.2.1, w32_id (x := br - 1) (by omega) (by omega), pt_ok, Option.bind_some, k1.2.2.2.2.2.1, w32_id (x := dep - n9 X - 1) (by omega) (by omega), pt_ok, Option.bind_some, w4, w32_id (x := (O.length : Int) + 1 - 1) (by omega) (by omega), pt_ok, Option.bind_some]
  have mx : mxI 0 ((O.length : Int) + 1 - 1) = (O.length : Int) := by unfold mxI; split <;> omega
  rw [mx]
theorem next_badend {N : Nat} {c : iv_M} {b : Int → Int} {L p fr : Int} {E : List (Int × Int)} {W : List Int} {stg cmp cl dep br cnt : Int} (hT : TX b L) (p0 : 0 ≤ p) (p1 : p ≤ L) (he : endF stg (ark (sg b L p))) (hlt : ¬ (97 ≤ sg b L p ∧ sg b L p ≤ 122)) (hbad : (0 < br ∧ sg b L p ≠ 93) ∨ (br = 0 ∧ sg b L p ≠ 59 ∧ sg b L p ≠ -1)) (hR : RD c 58 b L p fr 0) (h : CK c E W stg cmp cl dep br cnt) : ∃ c', FX8_readNext N c 57 (sg b L p) = some (0, c') ∧ c' 58 4 = ffl 0 p 0 ∧ FrC c c' := by
  have hL := hT.2.1
  have h5 := h.2.2.1
  have h9 := h.2.2.2.2.2.2.1
  refine ⟨mu c 58 4 (ffl 0 p 0), close_of h5 he hlt ?_ (Or.inl rfl), mu_eq, fun a x1 x2 x3 x4 => mu_rw x2⟩
  unfold FX8_readClosing FX8_readClosing_b76 FX8_readClosing_b94
  simp only [Nat.reduceAdd]
  rw [h9, hR.2.2.1, fail_ok p0 (by omega) (by omega) (by omega), Option.bind_some, hR.2.2.2.2.1]
  rcases hbad with ⟨u, v⟩ | ⟨u, v, w⟩
  · rw [if_neg v, if_pos u]
  · by_cases g : sg b L p = 93
    · rw [if_pos g, if_pos (by omega), if_neg (by omega), if_neg v, if_neg w]
    · rw [if_neg g, if_neg (by omega), if_neg v, if_neg w]
/-- the end of a clause -/
theorem next_end {N : Nat} {c : iv_M} {b : Int → Int} {L p fr : Int} {E : List (Int × Int)} {X : List Int} {stg cmp cl dep cnt : Int} (hN : 1000 ≤ N) (hT : TX b L) (p0 : 0 ≤ p) (p1 : p ≤ L) (he : endF stg (ark (sg b L p))) (hs : sg b L p = 59 ∨ sg b L p = -1) (hP : Prt 1 X []) (hR : RD c 58 b L p fr 0) (h : CK c E X stg cmp cl dep 0 cnt) (hl : E.length + X.length < 400) (hw : X.length ≤ 63) (d0 : n9 X - 1000 ≤ dep) (d1 : dep ≤ 1000) : ∃ c', FX8_readNext N c 57 (sg b L p) = some (if sg b L p = 59 then 1 else 0, c') ∧ RD c' 58 b L (if sg b L p = 59 then p + 1 else p) fr 0 ∧ CK c' (E ++ em X ++ (if cl ≤ 1 then [] else [(11, 0)])) [] 0 cmp cl (dep - n9 X) 0 cnt ∧ FrC c c' := by
  have hL := hT.2.1
  have h5 := h.2.2.1
  have h9 := h.2.2.2.2.2.2.1
  have h' : CK c E (X ++ []) stg cmp cl dep 0 cnt := by rw [List.append_nil]; exact h
  obtain ⟨y, a1, a2, a3⟩ := release_l (N := N) (Y := []) (rho := 1) (kx := fun (s_1231 : iv_M) => (FX8_release_b79 N s_1231)) (fun j ys hy => by cases hy) (by omega) X N c E dep hP.1 h' (by omega) (by simp; omega) (by omega) d0 d1
  have rel : FX8_release N c 57 1 = some y := by unfold FX8_release; rw [a1]; rfl
  have elen : (E ++ em X).length = E.length + X.length := by unfold em; rw [List.length_append, List.length_map]
  have y7 := a2.2.2.2.2.1
  have fin : ∀ (z : iv_M) (F : List (Int × Int)), CK z F [] stg cmp cl (dep - n9 X) 0 cnt → Fr3 c z → ∃ c', FX8_readClosing_b133 N z 57 (sg b L p) = some (if sg b L p = 59 then 1 else 0, c') ∧ RD c' 58 b L (if sg b L p = 59 then p + 1 else p) fr 0 ∧ CK c' F [] 0 cmp cl (dep - n9 X) 0 cnt ∧ FrC c c' := fun z F zK zF => by
    have zR := RD_3x hR zF
    have k1 := CK_f (i := 5) (v := 0) (CK_m (i := 2) (v := p + 1) zK) (by omega) (by omega)
    simp only [Int.reduceEq, if_true, if_false] at k1
    have k2 := CK_f (i := 5) (v := 0) zK (by omega) (by omega)
    simp only [Int.reduceEq, if_true, if_false] at k2
    unfold FX8_readClosing_b133 FX8_readClosing_b152 FX8_readClosing_b168
    simp only [Nat.reduceAdd]
    by_cases g : sg b L p = 59
    · rw [if_pos g, if_pos g, if_pos g, pt_ok, Option.bind_some, zR.2.2.1, w32_id (by omega) (by omega), pt_ok, Option.bind_some, if_pos g]
      exact ⟨_, rfl, RD_3x (RD_2 zR) mu_fr, k1, (zF.c).trans (fun a x1 x2 x3 x4 => by rw [mu_rw x1, mu_rw x2])⟩
    · rw [if_neg g, if_neg g, if_neg g, pt_ok, Option.bind_some, if_neg g]
      exact ⟨_, rfl, RD_3x zR mu_fr, k2, (zF.c).trans (Fr3.c mu_fr)⟩
  have go : ∃ c', FX8_readClosing N c 57 (sg b L p) = some (if sg b L p = 59 then 1 else 0, c') ∧ RD c' 58 b L (if sg b L p = 59 then p + 1 else p) fr 0 ∧ CK c' (E ++ em X ++ (if cl ≤ 1 then [] else [(11, 0)])) [] 0 cmp cl (dep - n9 X) 0 cnt ∧ FrC c c' := by
    unfold FX8_readClosing FX8_readClosing_b76
    simp only [Nat.reduceAdd]
    have b111 : ∃ c', FX8_readClosing_b111 N c 57 (sg b L p) = some (if sg b L p = 59 then 1 else 0, c') ∧ RD c' 58 b L (if sg b L p = 59 then p + 1 else p) fr 0 ∧ CK c' (E ++ em X ++ (if cl ≤ 1 then [] else [(11, 0)])) [] 0 cmp cl (dep - n9 X) 0 cnt ∧ FrC c c' := by
      unfold FX8_readClosing_b111
      rw [rk_1, Option.bind_some, rel, Option.bind_some, y7]
      by_cases g : cl ≤ 1
      · rw [if_pos g, if_pos g, List.append_nil]
        exact fin y _ a2 a3
      · obtain ⟨y2, e1, e2, e3⟩ := emit_ok (N := N) (x := 1) (e := (11, 0)) a2 (by rw [elen]; omega) (by decide)
        rw [if_neg g, if_neg g, e1, Option.bind_some]
        exact fin y2 _ e2 (a3.trans e3)
    rw [h9, if_neg (show ¬ sg b L p = 93 by omega), if_neg (by decide)]
    rcases hs with u | u
    · rw [if_pos u]; exact b111
    · rw [if_neg (show ¬ sg b L p = 59 by omega), if_pos u]; exact b111
  obtain ⟨c', q1, q2⟩ := go
  exact ⟨c', close_of h5 he (by omega) q1 (by dsimp only; split <;> simp), q2⟩
