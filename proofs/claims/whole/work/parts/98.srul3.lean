-- RULE: what each step of the class's reader does
theorem rnk_rg {k : Int} (h : isK k) : 0 ≤ rnk k ∧ rnk k ≤ 6 ∧ (rnk k = 0 ↔ k = 12) := by
  rcases isK_all h with e | e | e | e | e | e | e | e | e | e | e | e | e | e <;> rw [e] <;> decide
/-- what waits, parted: what is done at a rank, and what is left -/
def Prt (rho : Int) (X Y : List Int) : Prop := (∀ k, k ∈ X → isK k ∧ rho ≤ rnk k) ∧ (∀ k, k ∈ Y → isK k) ∧ ∀ k ys, Y = k :: ys → rnk k < rho
theorem join_ok {N : Nat} {c : iv_M} {E : List (Int × Int)} {X Y : List Int} {stg cmp cl dep br cnt k : Int} (hN : 1000 ≤ N) (h : CK c E (X ++ Y) stg cmp cl dep br cnt) (hk : isK k) (hP : Prt (rnk k) X Y) (k12 : k ≠ 12) (hl : E.length + X.length ≤ 400) (hw : X.length + Y.length ≤ 63) (d0 : n9 X - 1000 ≤ dep) (d1 : dep ≤ 1000) : ∃ c', FX8_join N c 57 (wco k) = some c' ∧ CK c' (E ++ em X) (k :: Y) stg cmp cl (dep - n9 X) br cnt ∧ Fr3 c c' := by
  have hr := rnk_rg hk
  obtain ⟨c1, a1, a2, a3⟩ := release_l (N := N) (Y := Y) (rho := rnk k) (kx := fun (s_1231 : iv_M) => (FX8_release_b79 N s_1231)) (fun j ys hy => ⟨hP.2.1 j (by rw [hy]; exact List.mem_cons_self), hP.2.2 j ys hy⟩) (by omega) X N c E dep hP.1 h hl (by omega) (by omega) d0 d1
  obtain ⟨c2, b1, b2, b3⟩ := hold_ok (N := N) (k := k) a2 (by omega)
  refine ⟨c2, ?_, b2, a3.trans b3⟩
  unfold FX8_join FX8_release
  rw [rk_ok hk, Option.bind_some, a1]
  unfold FX8_release_b79
  rw [Option.bind_some, b1, Option.bind_some]
def ark (s : Int) : Int := if s = 43 then 2 else if s = 45 then 3 else if s = 42 then 13 else if s = 47 then 14 else if s = 37 then 15 else 0
theorem ark_rg {s : Int} : ark s = 0 ∨ (isK (ark s) ∧ ark s ≠ 12 ∧ 5 ≤ rnk (ark s)) := by
  unfold ark
  split
  · right; exact ⟨by unfold isK; decide, by decide, by decide⟩
  split
  · right; exact ⟨by unfold isK; decide, by decide, by decide⟩
  split
  · right; exact ⟨by unfold isK; decide, by decide, by decide⟩
  split
  · right; exact ⟨by unfold isK; decide, by decide, by decide⟩
  split
  · right; exact ⟨by unfold isK; decide, by decide, by decide⟩
  · left; rfl
theorem arith_ok {N : Nat} {c : iv_M} {s : Int} : FX8_arithmeticOf N c s = some (if ark s = 0 then -1 else wco (ark s)) := by
  unfold FX8_arithmeticOf ark
  by_cases a : s = 37
  · subst a; rfl
  by_cases a2 : s = 42
  · subst a2; rfl
  by_cases a3 : s = 43
  · subst a3; rfl
  by_cases a4 : s = 45
  · subst a4; rfl
  by_cases a5 : s = 47
  · subst a5; rfl
  rw [if_neg a, if_neg a2, if_neg a3, if_neg a4, if_neg a5, if_neg a3, if_neg a4, if_neg a2, if_neg a5, if_neg a, if_pos rfl]
  repeat' split
  all_goals rfl
theorem next_bar {N : Nat} {c : iv_M} {b : Int → Int} {L p fr : Int} {E : List (Int × Int)} {W : List Int} {cmp cl dep br cnt : Int} (hN : 1000 ≤ N) (hT : TX b L) (p0 : 0 ≤ p) (p1 : p ≤ L) (hbl : bl b L p = p) (hR : RD c 58 b L p fr 0) (h : CK c E W 0 cmp cl dep br cnt) (l0 : 0 ≤ cl) (l1 : cl ≤ 1000) : ∃ c', FX8_readNext N c 57 (sg b L p) = some (1, c') ∧ RD c' 58 b L (el b L p) p (if cl < 12 then wft b p (el b L p) [wBar] 0 else ffl (wft b p (el b L p) [wBar] 0) p 4) ∧ CK c' E W 1 cmp (cl + 1) dep br cnt ∧ FrC c c' := by
  have hL := hT.2.1
  have rw1 := readWord_ok (N := N) (ws := [wBar]) hN hR hT str_b (by decide) (by decide) (by decide) p0 (by omega)
  rw [hbl] at rw1
  obtain ⟨ft, hft⟩ : ∃ ft, ft = wft b p (el b L p) [wBar] 0 := ⟨_, rfl⟩
  rw [← hft] at rw1 ⊢
  have h1 : CK (rdM c 58 (el b L p) p ft) E W 0 cmp cl dep br cnt := CK_rd h
  have hR1 : RD (rdM c 58 (el b L p) p ft) 58 b L (el b L p) p ft := rdM_RD hR
  have h7 := h1.2.2.2.2.1
  have fin : ∀ (x : iv_M) (f : Int), RD x 58 b L (el b L p) p f → CK x E W 0 cmp cl dep br cnt → FrC c x → ∃ c', ((FX8_readBar_b34 N x 57).bind fun s_1362 => (some ((1 : Int), s_1362))) = some (1, c') ∧ RD c' 58 b L (el b L p) p f ∧ CK c' E W 1 cmp (cl + 1) dep br cnt ∧ FrC c c' := fun x f xR xK xF => by
    unfold FX8_readBar_b34
    rw [pt_ok, Option.bind_some, pt_ok, Option.bind_some, Option.bind_some, xK.2.2.2.2.1, w32_id (by omega) (by omega)]
    refine ⟨_, rfl, RD_3x (RD_3x xR mu_fr) mu_fr, ?_, (xF.trans (Fr3.c mu_fr)).trans (Fr3.c mu_fr)⟩
    have k1 := CK_f (i := 7) (v := cl + 1) xK (by omega) (by omega)
    simp only [Int.reduceEq, if_true, if_false] at k1
    have k2 := CK_f (i := 5) (v := 1) k1 (by omega) (by omega)
    simp only [Int.reduceEq, if_true, if_false] at k2
    exact k2
  unfold FX8_readNext FX8_readBar
  simp only [Nat.reduceAdd]
  rw [h.2.2.1, if_pos rfl, rw1, Option.bind_some]
  dsimp only
  by_cases g : cl < 12
  · rw [if_pos (show rdM c 58 (el b L p) p ft 57 7 < 12 by rw [h7]; exact g), if_pos g]
    exact fin _ ft hR1 h1 rd_fr
  · rw [if_neg (show ¬ rdM c 58 (el b L p) p ft 57 7 < 12 by rw [h7]; exact g), if_neg g, hR1.2.2.2.1, fail_ok p0 (by omega) (by omega) (by omega), Option.bind_some, hR1.2.2.2.2.1]
    exact fin _ _ (RD_4 hR1) (CK_m h1) (fun a x1 x2 x3 x4 => by rw [mu_rw x2]; exact rdM_o x2)
theorem deepen_ok {N : Nat} {c : iv_M} {b : Int → Int} {L p fr : Int} {E : List (Int × Int)} {W : List Int} {stg cmp cl dep br cnt k x : Int} (hR : RD c 58 b L p fr 0) (h : CK c E W stg cmp cl dep br cnt) (hl : W.length < 64) (x0 : 0 ≤ x) (x1 : x ≤ 1000) (d0 : 0 ≤ dep) (d1 : dep ≤ 10) : ∃ c', FX8_deepen N c 57 (wco k) x = some c' ∧ FrC c c' ∧ (dep < 10 → RD c' 58 b L p fr 0 ∧ CK c' E (k :: W) stg cmp cl (dep + 1) br cnt) ∧ (¬ dep < 10 → RD c' 58 b L p fr (ffl 0 x 2) ∧ CK c' E W stg cmp cl dep br cnt) := by
  unfold FX8_deepen
  simp only [Nat.reduceAdd]
  have h8 := h.2.2.2.2.2.1
  rw [h8]
  by_cases g : dep < 10
  · rw [if_pos g, pt_ok, Option.bind_some, w32_id (by omega) (by omega)]
    have k1 := CK_f (i := 8) (v := dep + 1) h (by omega) (by omega)
    simp only [Int.reduceEq, if_true, if_false] at k1
    obtain ⟨c', a1, a2, a3⟩ := hold_ok (N := N) (k := k) k1 hl
    refine ⟨c', by rw [a1, Option.bind_some], (Fr3.c mu_fr).trans a3.c, fun _ => ⟨RD_3x (RD_3x hR mu_fr) a3, a2⟩, fun z => absurd g z⟩
  · rw [if_neg g, fail_ok x0 x1 (by omega) (by omega), Option.bind_some, hR.2.2.2.2.1]
    exact ⟨_, rfl, fun a x1 x2 x3 x4 => mu_rw x2, fun z => absurd z g, fun _ => ⟨RD_4 hR, CK_m h⟩⟩
theorem next_open {N : Nat} {c : iv_M} {b : Int → Int} {L p fr : Int} {E : List (Int × Int)} {W : List Int} {cmp cl dep br cnt : Int} (hN : 1000 ≤ N) (hT : TX b L) (p0 : 0 ≤ p) (p1 : p ≤ L) (hs : sg b L p = 91) (hR : RD c 58 b L p fr 0) (h : CK c E W 1 cmp cl dep br cnt) (hl : W.length < 64) (d0 : 0 ≤ dep) (d1 : dep ≤ 10) (b0 : 0 ≤ br) (b1 : br ≤ 1000) : ∃ c', FX8_readNext N c 57 (sg b L p) = some (1, c') ∧ FrC c c' ∧ (dep < 10 → RD c' 58 b L (p + 1) fr 0 ∧ CK c' E (12 :: W) 1 0 cl (dep + 1) (br + 1) cnt) ∧ (¬ dep < 10 → c' 58 4 = ffl 0 p 2) := by
  have hL := hT.2.1
  have k0 := CK_f (i := 6) (v := 0) h (by omega) (by omega)
  simp only [Int.reduceEq, if_true, if_false] at k0
  have hR0 : RD (mu c 57 6 0) 58 b L p fr 0 := RD_3x hR mu_fr
  obtain ⟨c1, a1, a2, a3, a4⟩ := deepen_ok (N := N) (k := 12) (x := p) hR0 k0 hl p0 (by omega) d0 d1
  have a1' : FX8_deepen N (mu c 57 6 0) 57 14 p = some c1 := a1
  unfold FX8_readNext FX8_readFact FX8_readFact_b57
  simp only [Nat.reduceAdd]
  rw [h.2.2.1, if_neg (by decide), if_pos rfl, pt_ok, Option.bind_some, if_pos hs, hR0.2.2.1, a1', Option.bind_some, pt_ok, Option.bind_some, pt_ok, Option.bind_some, Option.bind_some]
  by_cases g : dep < 10
  · obtain ⟨e1, e2⟩ := a3 g
    have e9 := e2.2.2.2.2.2.2.1
    have e2' : mu c1 57 9 (w32 (c1 57 9 + 1)) 58 2 = p := by rw [mu_rw (by decide)]; exact e1.2.2.1
    rw [e9, w32_id (x := br + 1) (by omega) (by omega)] at e2' ⊢
    rw [e2', w32_id (by omega) (by omega)]
    refine ⟨_, rfl, ((Fr3.c mu_fr).trans a2).trans (fun a x1 x2 x3 x4 => by rw [mu_rw x2, mu_rw x1]), fun _ => ⟨RD_2 (RD_3x e1 mu_fr), ?_⟩, fun z => absurd g z⟩
    have k1 := CK_f (i := 9) (v := br + 1) e2 (by omega) (by omega)
    simp only [Int.reduceEq, if_true, if_false] at k1
    exact CK_m k1
  · obtain ⟨e1, e2⟩ := a4 g
    refine ⟨_, rfl, ((Fr3.c mu_fr).trans a2).trans (fun a x1 x2 x3 x4 => by rw [mu_rw x2, mu_rw x1]), fun z => absurd z g, fun _ => ?_⟩
    rw [mu_ne (by omega), mu_rw (by decide)]; exact e1.2.2.2.2.1
theorem next_not {N : Nat} {c : iv_M} {b : Int → Int} {L p fr : Int} {E : List (Int × Int)} {W : List Int} {cmp cl dep br cnt : Int} (hN : 1000 ≤ N) (hT : TX b L) (p0 : 0 ≤ p) (p1 : p ≤ L) (hbl : bl b L p = p) (hs : isw b p (el b L p) wNot = true) (hR : RD c 58 b L p fr 0) (h : CK c E W 1 cmp cl dep br cnt) (hl : W.length < 64) (d0 : 0 ≤ dep) (d1 : dep ≤ 10) : ∃ c', FX8_readNext N c 57 (sg b L p) = some (1, c') ∧ FrC c c' ∧ (dep < 10 → RD c' 58 b L (p + 3) p 0 ∧ CK c' E (9 :: W) 1 0 cl (dep + 1) br cnt) ∧ (¬ dep < 10 → c' 58 4 = ffl 0 p 2) := by
  have hL := hT.2.1
  have hw := hs
  unfold isw at hw
  rw [Bool.and_eq_true, decide_eq_true_iff] at hw
  have he : el b L p = p + 3 := hw.1
  have hp : p < L ∧ isLt (b p) = true := rnn_in (f := isLt) (b := b) (L := L) (p := p) (i := p) (Int.le_refl p) (by show p < el b L p; omega)
  have hlt : 97 ≤ sg b L p ∧ sg b L p ≤ 122 := (sg_lt hT p0).mpr hp
  have ix : idw b p (el b L p) (vws ++ [wNot]) 0 = 13 := by
    rw [idw_app _ _ (by omega), if_pos hs]
    have hv : idw b p (el b L p) vws 0 = -1 := by
      -- what stands there is 'not', and no value
      have e3 : ∀ w : List Int, w ∈ vws → isw b p (el b L p) w = false := fun w hw' => by
        have hb : b p = 110 ∧ b (p + 1) = 111 ∧ b (p + 2) = 116 := by
          have := hw.2
          simp only [eqw, Bool.and_eq_true, decide_eq_true_iff] at this
          refine ⟨this.1, this.2.1, ?_⟩
          rw [show p + 2 = p + 1 + 1 by omega]; exact this.2.2.1
        have al : ∀ v ∈ vws, v.length ≠ 3 ∨ (v.head? ≠ some 110) := by decide
        rcases al w hw' with u | u
        · unfold isw
          rw [decide_eq_false (by omega), Bool.false_and]
        · cases w with
          | nil => unfold isw; rw [decide_eq_false (by simp; omega), Bool.false_and]
          | cons x xs =>
            unfold isw eqw
            have : ¬ b p = x := fun z => u (by rw [← z, hb.1]; rfl)
            rw [decide_eq_false this, Bool.false_and, Bool.and_false]
      have gen : ∀ (ws : List (List Int)) (n : Int), (∀ w, w ∈ ws → isw b p (el b L p) w = false) → idw b p (el b L p) ws n = -1 := by
        intro ws
        induction ws with
        | nil => intro n _; rfl
        | cons w ws ih =>
          intro n hh
          unfold idw
          rw [if_neg (by rw [hh w List.mem_cons_self]; decide)]
          exact ih (n + 1) (fun v hv => hh v (List.mem_cons_of_mem _ hv))
      exact gen vws 0 e3
    rw [hv]; rfl
  have rw1 := readWord_ok (N := N) (ws := vws ++ [wNot]) hN (RD_3x hR (mu_fr (i := 6) (v := 0))) hT str_vn (by decide) (by decide) (by decide) p0 (by omega)
  rw [hbl, ix] at rw1
  have wf : wft b p (el b L p) (vws ++ [wNot]) 0 = 0 := by unfold wft; rw [ix, if_neg (by decide)]
  rw [wf, he] at rw1
  have k0 := CK_f (i := 6) (v := 0) h (by omega) (by omega)
  simp only [Int.reduceEq, if_true, if_false] at k0
  have hR1 : RD (rdM (mu c 57 6 0) 58 (p + 3) p 0) 58 b L (p + 3) p 0 := rdM_RD (RD_3x hR mu_fr)
  obtain ⟨c1, a1, a2, a3, a4⟩ := deepen_ok (N := N) (k := 9) (x := p) hR1 (CK_rd k0) hl p0 (by omega) d0 d1
  have a1' : FX8_deepen N (rdM (mu c 57 6 0) 58 (p + 3) p 0) 57 3 p = some c1 := a1
  have s91 : ¬ sg b L p = 91 := by omega
  unfold FX8_readNext FX8_readFact FX8_readFact_b57 FX8_readValue
  simp only [Nat.reduceAdd]
  rw [h.2.2.1, if_neg (by decide), if_pos rfl, pt_ok, Option.bind_some, if_neg s91, isLetter_ok, Option.bind_some, if_pos hlt, if_neg (by decide), rw1, Option.bind_some]
  dsimp only
  rw [if_pos rfl, hR1.2.2.2.1, a1', Option.bind_some, Option.bind_some, Option.bind_some]
  refine ⟨c1, rfl, ((Fr3.c mu_fr).trans rd_fr).trans a2, a3, fun z => (a4 z).1.2.2.2.2.1⟩
theorem next_value1 {N : Nat} {c : iv_M} {b : Int → Int} {L p fr : Int} {E : List (Int × Int)} {W : List Int} {cmp cl dep br cnt : Int} (hN : 1000 ≤ N) (hT : TX b L) (p0 : 0 ≤ p) (p1 : p ≤ L) (hbl : bl b L p = p) (hs : sg b L p ≠ 91) (hn : isw b p (el b L p) wNot = false) (hR : RD c 58 b L p fr 0) (h : CK c E W 1 cmp cl dep br cnt) (hl : E.length < 400) (c0 : 0 ≤ cnt) (c1 : cnt ≤ 1000) : ∃ c', FX8_readNext N c 57 (sg b L p) = some (1, c') ∧ RD c' 58 b L (vEnd b L p) p (cFt (vFt b L p) cnt p) ∧ CK c' (E ++ [vEnt b L p]) W 3 0 cl dep br (cnt + 1) ∧ FrC c c' := by
  have k0 := CK_f (i := 6) (v := 0) h (by omega) (by omega)
  simp only [Int.reduceEq, if_true, if_false] at k0
  obtain ⟨c', a1, a2, a3, a4⟩ := c_value (N := N) (q2 := 1000013) hN hT p0 p1 hbl str_vn (Or.inr ⟨rfl, hn⟩) (RD_3x hR (mu_fr (i := 6) (v := 0))) k0 hl c0 c1
  refine ⟨c', ?_, a2, a3, (Fr3.c mu_fr).trans a4⟩
  unfold FX8_readNext FX8_readFact FX8_readFact_b57
  rw [h.2.2.1, if_neg (by decide), if_pos rfl, pt_ok, Option.bind_some, if_neg hs, a1, Option.bind_some, Option.bind_some]
theorem next_value2 {N : Nat} {c : iv_M} {b : Int → Int} {L p fr : Int} {E : List (Int × Int)} {W : List Int} {cmp cl dep br cnt : Int} (hN : 1000 ≤ N) (hT : TX b L) (p0 : 0 ≤ p) (p1 : p ≤ L) (hbl : bl b L p = p) (hR : RD c 58 b L p fr 0) (h : CK c E W 2 cmp cl dep br cnt) (hl : E.length < 400) (c0 : 0 ≤ cnt) (c1 : cnt ≤ 1000) : ∃ c', FX8_readNext N c 57 (sg b L p) = some (1, c') ∧ RD c' 58 b L (vEnd b L p) p (cFt (vFt b L p) cnt p) ∧ CK c' (E ++ [vEnt b L p]) W (if cmp = 0 then 3 else 4) cmp cl dep br (cnt + 1) ∧ FrC c c' := by
  obtain ⟨c', a1, a2, a3, a4⟩ := c_value (N := N) (q2 := 1000011) hN hT p0 p1 hbl str_v (Or.inl rfl) hR h hl c0 c1
  refine ⟨c', ?_, a2, a3, a4⟩
  unfold FX8_readNext
  rw [h.2.2.1, if_neg (by decide), if_neg (by decide), if_pos rfl, a1, Option.bind_some]
