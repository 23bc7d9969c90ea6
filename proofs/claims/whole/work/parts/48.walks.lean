-- WALKS on a floor
def wS (B : iv_M) (r c : Int) : iv_M := mu (mu (mu B 121 (B 116 r) (-1)) 116 r c) 121 c r
def wC (B : iv_M) (a b : Int) : iv_M := mu (mu (mu (mu B 116 a (B 116 b)) 116 b (B 116 a)) 121 (B 116 b) a) 121 (B 116 a) b
def wT (B : iv_M) (r k : Int) : iv_M := mu B 117 r ((B 117 r + k) % 4)
theorem wS_o {B : iv_M} {r c i : Int} {a : Nat} (h : a ≠ 116) (h1 : a ≠ 121) : wS B r c a i = B a i := by unfold wS; simp (disch := omega) only [mu_ne]
theorem wC_o {B : iv_M} {r c i : Int} {a : Nat} (h : a ≠ 116) (h1 : a ≠ 121) : wC B r c a i = B a i := by unfold wC; simp (disch := omega) only [mu_ne]
theorem wT_o {B : iv_M} {r k i : Int} {a : Nat} (h : a ≠ 117) : wT B r k a i = B a i := by unfold wT; simp (disch := omega) only [mu_ne]
theorem wS_1 {B : iv_M} {r c i : Int} : wS B r c 121 i = if i = c then r else if i = B 116 r then -1 else B 121 i := by
  unfold wS mu; simp
theorem wS_6 {B : iv_M} {r c i : Int} : wS B r c 116 i = if i = r then c else B 116 i := by
  unfold wS mu; simp
theorem wC_1 {B : iv_M} {a b i : Int} : wC B a b 121 i = if i = B 116 a then b else if i = B 116 b then a else B 121 i := by
  unfold wC mu; simp
theorem wC_6 {B : iv_M} {a b i : Int} : wC B a b 116 i = if i = b then B 116 a else if i = a then B 116 b else B 116 i := by
  unfold wC mu; simp
theorem wT_7 {B : iv_M} {r k i : Int} : wT B r k 117 i = if i = r then (B 117 r + k) % 4 else B 117 i := by
  unfold wT mu; simp
theorem Wf_wS {B : iv_M} {r c : Int} (h : Wf B) (r0 : 0 ≤ r) (r1 : r < B 114 2) (c0 : 0 ≤ c) (c1 : c < 16) (cx : c % 4 < B 114 0) (cy : c / 4 < B 114 1) (he : B 121 c = -1) : Wf (wS B r c) := by
  obtain ⟨g1, g2, g3, g4, g5, g6, g7⟩ := h.room r0 r1
  obtain ⟨h1, h2, h3⟩ := h
  refine ⟨?_, fun c' c0' c1' => ?_, fun r' r0' r1' => ?_⟩
  · unfold Wa at h1 ⊢; simp (disch := omega) only [wS_o]; exact h1
  · rw [wS_1]
    simp (disch := omega) only [wS_o]
    by_cases e : c' = c
    · rw [if_pos e, wS_6, if_pos rfl, e]; right; exact ⟨r0, r1, rfl, g4, g5, cx, cy⟩
    · rw [if_neg e]
      by_cases e2 : c' = B 116 r
      · rw [if_pos e2]; left; rfl
      · rw [if_neg e2]
        rcases h2 c' c0' c1' with e3 | e3
        · left; exact e3
        · right
          rw [wS_6, if_neg (fun e4 => by rw [e4] at e3; exact e2 e3.2.2.1.symm)]
          exact e3
  · have r1' : r' < B 114 2 := by rw [wS_o (by omega) (by omega)] at r1'; exact r1'
    rw [wS_6]
    by_cases e : r' = r
    · rw [if_pos e, wS_1, if_pos rfl]; exact ⟨c0, c1, e.symm⟩
    · rw [if_neg e, wS_1]
      obtain ⟨k1, k2, k3⟩ := h3 r' r0' r1'
      rw [if_neg (fun e2 => by rw [e2] at k3; omega), if_neg (fun e2 => by rw [e2] at k3; omega)]
      exact ⟨k1, k2, k3⟩
theorem Wf_wC {B : iv_M} {a b : Int} (h : Wf B) (a0 : 0 ≤ a) (a1 : a < B 114 2) (b0 : 0 ≤ b) (b1 : b < B 114 2) (hab : a ≠ b) : Wf (wC B a b) := by
  obtain ⟨g1, g2, g3, g4, g5, g6, g7⟩ := h.room a0 a1
  obtain ⟨k1, k2, k3, k4, k5, k6, k7⟩ := h.room b0 b1
  obtain ⟨h1, h2, h3⟩ := h
  have hne : B 116 a ≠ B 116 b := fun e => hab (by rw [← g3, ← k3, e])
  refine ⟨?_, fun c' c0' c1' => ?_, fun r' r0' r1' => ?_⟩
  · unfold Wa at h1 ⊢; simp (disch := omega) only [wC_o]; exact h1
  · rw [wC_1]
    simp (disch := omega) only [wC_o]
    by_cases e : c' = B 116 a
    · rw [if_pos e, wC_6, if_pos rfl, e]; right; exact ⟨b0, b1, rfl, k4, k5, g6, g7⟩
    · rw [if_neg e]
      by_cases e2 : c' = B 116 b
      · rw [if_pos e2, wC_6, if_neg hab, if_pos rfl, e2]; right; exact ⟨a0, a1, rfl, g4, g5, k6, k7⟩
      · rw [if_neg e2]
        rcases h2 c' c0' c1' with e3 | e3
        · left; exact e3
        · right
          rw [wC_6, if_neg (fun e4 => by rw [e4] at e3; exact e2 e3.2.2.1.symm), if_neg (fun e4 => by rw [e4] at e3; exact e e3.2.2.1.symm)]
          exact e3
  · have r1' : r' < B 114 2 := by rw [wC_o (by omega) (by omega)] at r1'; exact r1'
    rw [wC_6]
    by_cases e : r' = b
    · rw [if_pos e, wC_1, if_pos rfl]; exact ⟨g1, g2, e.symm⟩
    · rw [if_neg e]
      by_cases e2 : r' = a
      · rw [if_pos e2, wC_1, if_neg (fun z => hne z.symm), if_pos rfl]; exact ⟨k1, k2, e2.symm⟩
      · rw [if_neg e2, wC_1]
        obtain ⟨l1, l2, l3⟩ := h3 r' r0' r1'
        rw [if_neg (fun e3 => by rw [e3] at l3; omega), if_neg (fun e3 => by rw [e3] at l3; omega)]
        exact ⟨l1, l2, l3⟩
theorem Wf_wT {B : iv_M} {r k : Int} (h : Wf B) : Wf (wT B r k) := by
  obtain ⟨h1, h2, h3⟩ := h
  refine ⟨?_, fun c' c0' c1' => ?_, fun r' r0' r1' => ?_⟩
  · unfold Wa at h1 ⊢; simp (disch := omega) only [wT_o]; exact h1
  · simp (disch := omega) only [wT_o]
    rcases h2 c' c0' c1' with e3 | e3
    · left; exact e3
    · right
      refine ⟨e3.1, e3.2.1, e3.2.2.1, ?_, ?_, e3.2.2.2.2.2⟩
      · rw [wT_7]; split <;> omega
      · rw [wT_7]; split <;> omega
  · simp (disch := omega) only [wT_o] at r1' ⊢
    exact h3 r' r0' r1'
theorem FRc.cell {s B : iv_M} {q : Nat} {r : Int} (hF : FRc s q B) (hW : Wf B) (r0 : 0 ≤ r) (r1 : r < B 114 2) : s (q + 1) r = B 116 r ∧ s (q + 2) r = B 117 r := by
  obtain ⟨g1, g2, g3, g4, g5, g6, g7⟩ := hW.room r0 r1
  have := hF.2.2.2.2.2.2.2 (B 116 r) g1 g2 (by omega)
  rw [g3] at this
  exact this
/-- a put on a floor with every room: both packed numbers -/
theorem put_fp {s B B' : iv_M} {q : Nat} {r c t : Int} (hP : FP s q B) (hW : Wf B) (r0 : 0 ≤ r) (r1 : r < B 114 2) (c0 : 0 ≤ c) (c1 : c < 16) (t0 : 0 ≤ t) (t1 : t < 4) (h2 : B' 114 2 = B 114 2) (hc : ∀ i, B' 116 i = if i = r then c else B 116 i) (ht : ∀ i, B' 117 i = if i = r then t else B 117 i) : FP (putM s q r c t) q B' := by
  obtain ⟨g1, g2⟩ := hW.dig
  have hr2 := hW.1.2.2.2.2.2.1
  refine ⟨?_, ?_⟩
  · rw [pm_03, hP.1, pk4_set (by omega) g1 r0 (by omega) c0 c1, h2]
    exact pkd_congr _ (fun i _ _ => (hc i).symm)
  · rw [pm_04, hP.2, pk2_set (by omega) g2 r0 (by omega) t0 t1, h2]
    exact pkd_congr _ (fun i _ _ => (ht i).symm)
theorem wcode {k r o : Int} (k0 : 0 ≤ k) (k1 : k < 8) (r0 : 0 ≤ r) (r1 : r < 16) (o0 : 0 ≤ o) (o1 : o < 16) : bAn (sr32 (256 * k + 16 * r + o) 4) 15 = r ∧ sr32 (256 * k + 16 * r + o) 8 = k ∧ bAn (256 * k + 16 * r + o) 15 = o := by
  rw [bAn_15, bAn_15, sr32_4, sr32_8]
  omega
theorem stir_T {N q : Nat} {s B : iv_M} {r b : Int} (hN : 100 ≤ N) (hT : TF q) (hW : Wf B) (hF : FRc s q B) (hP : FP s q B) (r0 : 0 ≤ r) (r1 : r < B 114 2) : ∃ s', FX1_stir N s q (256 * 3 + 16 * r + 0) b = some s' ∧ FRc s' q (wT B r (if b = 0 then 3 else 1)) ∧ FP s' q (wT B r (if b = 0 then 3 else 1)) ∧ Fo q (q + 5) s s' := by
  have hr2 := hW.1.2.2.2.2.2.1
  obtain ⟨w1, w2, w3⟩ := wcode (k := 3) (r := r) (o := 0) (by omega) (by omega) r0 (by omega) (by omega) (by omega)
  obtain ⟨e1, e2⟩ := hF.cell hW r0 r1
  obtain ⟨g1, g2, g3, g4, g5, g6, g7⟩ := hW.room r0 r1
  have main : ∀ k : Int, 0 ≤ k → k < 4 → FX1_put N s q r (B 116 r) (bAn (w32 (B 117 r + k)) 3) = some (putM s q r (B 116 r) ((B 117 r + k) % 4)) ∧ FRc (putM s q r (B 116 r) ((B 117 r + k) % 4)) q (wT B r k) ∧ FP (putM s q r (B 116 r) ((B 117 r + k) % 4)) q (wT B r k) ∧ Fo q (q + 5) s (putM s q r (B 116 r) ((B 117 r + k) % 4)) := by
    intro k k0 k1
    refine ⟨?_, ?_, ?_, fun a i ha => pm_out (by omega)⟩
    · rw [w32_id (by omega) (by omega), bAn_3, FX1_put_ok (by omega) hT.2.2.1 r0 (by omega) g1 g2 (by omega) (by omega)]
    · have hx : FRx (fun c => c = B 116 r) s q (wT B r k) := FRc_x hF (wT_o (by omega)) (wT_o (by omega)) (wT_o (by omega)) (fun j => wT_o (by omega)) (fun c c0 c1 hc => by
        refine ⟨wT_o (by omega), fun hn => ?_⟩
        rw [wT_7, if_neg (fun e => ?_)]
        rcases hW.2.1 c c0 c1 with e3 | e3
        · omega
        · rw [e] at e3; exact hc e3.2.2.1.symm)
      have hp := put_fr (r := r) (c := B 116 r) (t := (B 117 r + k) % 4) hx ⟨r0, by rw [wT_o (by omega)]; exact r1⟩ (by rw [wT_o (by omega)]; exact g3) (by rw [wT_7, if_pos rfl]) (fun c' c0 c1 hc' _ e => by
        rw [wT_o (by omega)] at e
        rcases hW.2.1 c' c0 c1 with e3 | e3
        · omega
        · rw [e] at e3; exact hc' e3.2.2.1.symm) (by omega) (by omega)
      exact FRx_c hp (fun c c0 c1 hc => hc.2 hc.1)
    · exact put_fp hP hW r0 r1 g1 g2 (by omega) (by omega) (wT_o (by omega)) (fun i => by
        rw [wT_o (by omega)]; split
        · next h => rw [h]
        · rfl) (fun i => wT_7)
  unfold FX1_stir
  rw [w1, w2, rd_ok r0 (by omega), Option.bind_some, if_pos rfl, rd_ok r0 (by omega), Option.bind_some, e1, e2]
  unfold FX1_stir_b48 FX1_stir_b154
  by_cases hb : b = 0
  · obtain ⟨m1, m2, m3, m4⟩ := main 3 (by omega) (by omega)
    rw [if_pos hb, if_pos hb, m1, Option.bind_some]; exact ⟨_, rfl, m2, m3, m4⟩
  · obtain ⟨m1, m2, m3, m4⟩ := main 1 (by omega) (by omega)
    rw [if_neg hb, if_neg hb, m1, Option.bind_some]; exact ⟨_, rfl, m2, m3, m4⟩
theorem stir_C {N q : Nat} {s B : iv_M} {r o b : Int} (hN : 100 ≤ N) (hT : TF q) (hW : Wf B) (hF : FRc s q B) (hP : FP s q B) (r0 : 0 ≤ r) (r1 : r < B 114 2) (o0 : 0 ≤ o) (o1 : o < B 114 2) (hro : r ≠ o) : ∃ s', FX1_stir N s q (256 * 2 + 16 * r + o) b = some s' ∧ FRc s' q (wC B r o) ∧ FP s' q (wC B r o) ∧ Fo q (q + 5) s s' := by
  have hr2 := hW.1.2.2.2.2.2.1
  obtain ⟨w1, w2, w3⟩ := wcode (k := 2) (r := r) (o := o) (by omega) (by omega) r0 (by omega) o0 (by omega)
  obtain ⟨e1, e2⟩ := hF.cell hW r0 r1
  obtain ⟨e3, e4⟩ := hF.cell hW o0 o1
  obtain ⟨g1, g2, g3, g4, g5, g6, g7⟩ := hW.room r0 r1
  obtain ⟨k1, k2, k3, k4, k5, k6, k7⟩ := hW.room o0 o1
  have hne : B 116 r ≠ B 116 o := fun e => hro (by rw [← g3, ← k3, e])
  have hW' := Wf_wC hW r0 r1 o0 o1 hro
  unfold FX1_stir
  rw [w1, w2, w3, rd_ok r0 (by omega), Option.bind_some, if_neg (by omega), if_pos rfl, rd_ok o0 (by omega), Option.bind_some, rd_ok r0 (by omega), Option.bind_some, e1, e2, e3, FX1_put_ok (by omega) hT.2.2.1 r0 (by omega) k1 k2 g4 g5, Option.bind_some, rd_ok o0 (by omega), Option.bind_some, pm_2, if_neg (fun z => hro z.symm), e4, FX1_put_ok (by omega) hT.2.2.1 o0 (by omega) g1 g2 k4 k5, Option.bind_some]
  unfold FX1_stir_b154
  refine ⟨_, rfl, ?_, ?_, fun a i ha => by rw [pm_out (by omega), pm_out (by omega)]⟩
  · have hx : FRx (fun c => c = B 116 r ∨ c = B 116 o) s q (wC B r o) := FRc_x hF (wC_o (by omega) (by omega)) (wC_o (by omega) (by omega)) (wC_o (by omega) (by omega)) (fun j => wC_o (by omega) (by omega)) (fun c c0 c1 hc => by
      refine ⟨?_, fun hn => wC_o (by omega) (by omega)⟩
      rw [wC_1, if_neg (fun z => hc (Or.inl z)), if_neg (fun z => hc (Or.inr z))])
    have hp := put_fr (r := r) (c := B 116 o) (t := B 117 r) hx ⟨r0, by rw [wC_o (by omega) (by omega)]; exact r1⟩ (by rw [wC_1, if_neg (fun z => hne z.symm), if_pos rfl]) (wC_o (by omega) (by omega)) (fun c' c0 c1 hc' _ e => by
      rw [wC_1, if_neg (fun z => hc' (Or.inl z)), if_neg (fun z => hc' (Or.inr z))] at e
      rcases hW.2.1 c' c0 c1 with e3 | e3
      · omega
      · rw [e] at e3; exact hc' (Or.inl e3.2.2.1.symm)) g4 g5
    have hp2 := put_fr (r := o) (c := B 116 r) (t := B 117 o) hp ⟨o0, by rw [wC_o (by omega) (by omega)]; exact o1⟩ (by rw [wC_1, if_pos rfl]) (wC_o (by omega) (by omega)) (fun c' c0 c1 hc' hc2 e => by
      rw [wC_1, if_neg hc2] at e
      by_cases e5 : c' = B 116 o
      · rw [if_pos e5] at e; exact hro e
      · rw [if_neg e5] at e
        rcases hW.2.1 c' c0 c1 with e3 | e3
        · omega
        · rw [e] at e3; exact e5 e3.2.2.1.symm) k4 k5
    exact FRx_c hp2 (fun c c0 c1 hc => by
      obtain ⟨⟨h1, h2⟩, h3⟩ := hc
      rcases h1 with h1 | h1
      · exact h3 h1
      · exact h2 h1)
  · have f1 : FP (putM s q r (B 116 o) (B 117 r)) q (mu B 116 r (B 116 o)) := put_fp hP hW r0 r1 k1 k2 g4 g5 (mu_ne (by omega)) (fun i => by unfold mu; simp) (fun i => by
      rw [mu_ne (by omega)]; split
      · next h => rw [h]
      · rfl)
    obtain ⟨q1, q2⟩ := hW.dig
    refine ⟨?_, ?_⟩
    · rw [pm_03, f1.1, mu_ne (by omega), pk4_set (by omega) (fun i i0 i1 => by
        unfold mu; split
        · exact ⟨k1, by simpa using k2⟩
        · exact q1 i i0 i1) o0 (by omega) g1 g2, wC_o (by omega) (by omega)]
      refine pkd_congr _ (fun i _ _ => ?_)
      rw [wC_6]; unfold mu; simp
    · rw [pm_04, f1.2, mu_ne (by omega), pk2_set (by omega) (fun i i0 i1 => by
        rw [mu_ne (by omega)]
        exact q2 i i0 i1) o0 (by omega) k4 k5, wC_o (by omega) (by omega)]
      refine pkd_congr _ (fun i _ _ => ?_)
      rw [wC_o (by omega) (by omega), mu_ne (by omega)]; split
      · next h => rw [h]
      · rfl
theorem stir_S {N q : Nat} {s B : iv_M} {r o b c : Int} (hN : 100 ≤ N) (hT : TF q) (hW : Wf B) (hF : FRc s q B) (hP : FP s q B) (r0 : 0 ≤ r) (r1 : r < B 114 2) (o0 : 0 ≤ o) (o1 : o < 4) (hc : c = nb B (B 116 r) (if b = 0 then (o + 2) % 4 else o)) (hc1 : c ≠ -1) (he : B 121 c = -1) : ∃ s', FX1_stir N s q (256 * 1 + 16 * r + o) b = some s' ∧ FRc s' q (wS B r c) ∧ FP s' q (wS B r c) ∧ Fo q (q + 5) s s' := by
  have hr2 := hW.1.2.2.2.2.2.1
  obtain ⟨w1, w2, w3⟩ := wcode (k := 1) (r := r) (o := o) (by omega) (by omega) r0 (by omega) o0 (by omega)
  obtain ⟨e1, e2⟩ := hF.cell hW r0 r1
  obtain ⟨g1, g2, g3, g4, g5, g6, g7⟩ := hW.room r0 r1
  have hcr : 0 ≤ c ∧ c < 16 := by rcases nb_range (c := B 116 r) (d := if b = 0 then (o + 2) % 4 else o) hW.1 with e | e <;> rw [← hc] at e <;> omega
  have hne : c ≠ B 116 r := fun e => by rw [e, g3] at he; omega
  have main : ((rd s (q + 6) ((sh (q + 6)).2 : Int) (w32 ((w32 (4 * (B 116 r))) + (if b = 0 then (o + 2) % 4 else o)))).bind fun v_261 => (if v_261 = (-1) then (FX1_stir_b154 N s) else ((FX1_take N s q r).bind fun s_264 => ((rd s_264 (q + 2) 12 r).bind fun v_265 => ((FX1_put N s_264 q r v_261 v_265).bind fun s_267 => (FX1_stir_b154 N s_267)))))) = some (putM (tkM s q (B 116 r)) q r c (B 117 r)) := by
    have hd : 0 ≤ (if b = 0 then (o + 2) % 4 else o) ∧ (if b = 0 then (o + 2) % 4 else o) < 4 := by split <;> omega
    rw [hT.2.2.2, w32_id (x := 4 * _) (by omega) (by omega), w32_id (by omega) (by omega), rd_ok (by omega) (by omega), Option.bind_some, hF.2.2.2.2.2.1 _ _ g1 g2 hd.1 hd.2, ← hc, if_neg hc1, FX1_take_ok (by omega) r0 (by omega) e1 g1 g2, Option.bind_some, rd_ok r0 (by omega), Option.bind_some, tk_out (by omega) (by omega), e2, FX1_put_ok (by omega) hT.2.2.1 r0 (by omega) hcr.1 hcr.2 g4 g5, Option.bind_some]
    rfl
  refine ⟨putM (tkM s q (B 116 r)) q r c (B 117 r), ?_, ?_, ?_, fun a i ha => by rw [pm_out (by omega), tk_out (by omega) (by omega)]⟩
  · unfold FX1_stir
    rw [w1, w2, w3, rd_ok r0 (by omega), Option.bind_some, if_neg (by omega), if_neg (by omega), e1]
    unfold FX1_stir_b126
    by_cases hb : b = 0
    · rw [if_pos hb, bXo_2 o0 o1]; rw [if_pos hb] at main; exact main
    · rw [if_neg hb]; rw [if_neg hb] at main; exact main
  · have hx : FRx (fun c' => c' = B 116 r ∨ c' = c) s q (wS B r c) := FRc_x hF (wS_o (by omega) (by omega)) (wS_o (by omega) (by omega)) (wS_o (by omega) (by omega)) (fun j => wS_o (by omega) (by omega)) (fun c' c0 c1 hc => by
      refine ⟨?_, fun hn => wS_o (by omega) (by omega)⟩
      rw [wS_1, if_neg (fun z => hc (Or.inr z)), if_neg (fun z => hc (Or.inl z))])
    have ht := take_fr (c := B 116 r) hx (by rw [wS_1, if_neg (fun z => hne z.symm), if_pos rfl])
    have hp := put_fr (r := r) (c := c) (t := B 117 r) ht ⟨r0, by rw [wS_o (by omega) (by omega)]; exact r1⟩ (by rw [wS_1, if_pos rfl]) (wS_o (by omega) (by omega)) (fun c' c0 c1 hc' hcc e => by
      rw [wS_1, if_neg hcc] at e
      by_cases e5 : c' = B 116 r
      · rw [if_pos e5] at e; omega
      · rw [if_neg e5] at e
        rcases hW.2.1 c' c0 c1 with e3 | e3
        · omega
        · rw [e] at e3; exact e5 e3.2.2.1.symm) g4 g5
    exact FRx_c hp (fun c' c0 c1 h => by
      obtain ⟨⟨h1, h2⟩, h3⟩ := h
      rcases h1 with h1 | h1
      · exact h2 h1
      · exact h3 h1)
  · have hP' : FP (tkM s q (B 116 r)) q B := ⟨by rw [tk_out (by omega) (by omega)]; exact hP.1, by rw [tk_out (by omega) (by omega)]; exact hP.2⟩
    exact put_fp hP' hW r0 r1 hcr.1 hcr.2 g4 g5 (wS_o (by omega) (by omega)) (fun i => wS_6) (fun i => by
      rw [wS_o (by omega) (by omega)]; split
      · next h => rw [h]
      · rfl)
