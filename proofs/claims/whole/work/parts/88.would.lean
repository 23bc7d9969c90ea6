-- NIGHTS TRIED OUT
def nx (B : iv_M) : iv_M := mu B 114 6 (B 114 6 + 1)
theorem nx_o {B : iv_M} {a : Nat} (h : a ≠ 114) : nx B a = B a := mu_rw h
theorem nx_j {B : iv_M} {j : Int} (h : j ≠ 6) : nx B 114 j = B 114 j := mu_ne (by omega)
theorem nx_6 {B : iv_M} : nx B 114 6 = B 114 6 + 1 := mu_eq
theorem Ew_nx {B : iv_M} : Ew B (nx B) := ⟨nx_j (by omega), nx_j (by omega), nx_j (by omega), nx_o (by omega), nx_o (by omega), nx_o (by omega), nx_o (by omega)⟩
theorem eb_nx {B B' : iv_M} (h : Eb B B') : Eb (nx B) (nx B') := fun a z0 z1 => by
  funext i; unfold nx mu; rw [h a z0 z1, h 114 (by omega) (by omega)]
def liv (ru : Option (List (List (Int × Int)))) (B : iv_M) : Nat → iv_M × Int
  | 0 => (B, 0)
  | n + 1 => if lwf ru (liv ru B n).1 (B 124 n) (B 125 n) (B 126 n) = 0 then (nx (wlk (liv ru B n).1 (B 124 n) (B 125 n) (B 126 n)), (liv ru B n).2) else (nx (liv ru B n).1, (liv ru B n).2 + 1)
/-- a block tried out: only places, turns and the night are others -/
def Lok (m : Int) (B P : iv_M) : Prop := WHm m P ∧ OZ P ∧ (∀ j, j ≠ 6 → P 114 j = B 114 j) ∧ (∀ a, (a = 115 ∨ (118 ≤ a ∧ a ≤ 120) ∨ (122 ≤ a ∧ a ≤ 131)) → P a = B a) ∧ ∀ i, ¬ (0 ≤ i ∧ i < B 114 2) → P 116 i = B 116 i ∧ P 117 i = B 117 i
theorem Lok.refl {m : Int} {B : iv_M} (h : WHm m B) (hO : OZ B) : Lok m B B := ⟨h, hO, fun _ _ => rfl, fun _ _ => rfl, fun _ _ => ⟨rfl, rfl⟩⟩
theorem WHm_nx {m : Int} {B : iv_M} (h : WHm m B) : WHm (m + 1) (nx B) := by
  have e22 : nx B 122 = B 122 := nx_o (by omega)
  have pc : pC (nx B) = pC B := by funext j r; unfold pC; rw [e22]
  have pt : pT (nx B) = pT B := by funext j r; unfold pT; rw [e22]
  have fv : FV (nx B) = FV B := by funext f g; unfold FV; rw [nx_j (by omega), nx_j (by omega), nx_j (by omega)]
  have a4 := h.2.1.2.2.2.1
  refine WHm_past h (fun j z0 _ => nx_j z0) (fun a ha => nx_o (by omega)) (ew_Wf Ew_nx h.1) (by rw [nx_6]; omega) (by rw [nx_j (by omega)]; exact h.2.1.2.2.2.2.1) ?_
  rw [nx_j (by omega), pc, pt, fv]; exact h.2.2.2.2.2.1
theorem Lok.nx {m : Int} {B P : iv_M} (h : Lok m B P) : Lok (m + 1) B (nx P) := by
  obtain ⟨h1, h2, h3, h4, h5⟩ := h
  refine ⟨WHm_nx h1, OZ_mu h2 (fun _ _ => by unfold ln; simp), fun j hj => by rw [nx_j hj, h3 j hj], fun a ha => by rw [nx_o (by omega), h4 a ha], fun i hi => by rw [nx_o (by omega), nx_o (by omega)]; exact h5 i hi⟩
theorem wlk_out {B : iv_M} {k r o i : Int} (h : isW B k r o) (hi : ¬ (0 ≤ i ∧ i < B 114 2)) : wlk B k r o 116 i = B 116 i ∧ wlk B k r o 117 i = B 117 i := by
  unfold isW at h
  unfold wlk
  by_cases e1 : k = 1
  · rw [if_pos e1, wS_6, wS_o (by omega) (by omega), if_neg (by omega)]; exact ⟨rfl, rfl⟩
  · rw [if_neg e1]
    by_cases e2 : k = 2
    · rw [if_pos e2, wC_6, wC_o (by omega) (by omega), if_neg (by omega), if_neg (by omega)]; exact ⟨rfl, rfl⟩
    · rw [if_neg e2, wT_o (by omega), wT_7, if_neg (by omega)]; exact ⟨rfl, rfl⟩
theorem Lok.wk {m : Int} {B P : iv_M} {k r o : Int} (h : Lok m B P) (hi : isW P k r o) (hs : slO P k r o) : Lok m B (wlk P k r o) := by
  obtain ⟨h1, h2, h3, h4, h5⟩ := h
  refine ⟨WHm_wlk h1 hi hs, OZ_wlk h2 h1.1 hi hs, fun j hj => by rw [wlk_o (by omega) (by omega) (by omega), h3 j hj], fun a ha => by rw [wlk_row (by omega) (by omega) (by omega), h4 a ha], fun i hx => ?_⟩
  obtain ⟨w1, w2⟩ := wlk_out (i := i) hi (by rw [h3 2 (by omega)]; exact hx)
  rw [w1, w2]; exact h5 i hx
theorem liv_ok {ru : Option (List (List (Int × Int)))} {B : iv_M} {m : Int} (hB : WHm m B) (hO : OZ B) : ∀ n : Nat, (n : Int) ≤ B 114 8 → Lok (m + n) B (liv ru B n).1 ∧ (0 ≤ (liv ru B n).2 ∧ (liv ru B n).2 ≤ n) ∧ (liv ru B n).1 114 6 = B 114 6 + n := by
  intro n
  induction n with
  | zero => intro _; exact ⟨Lok.refl (WHm_mono (by omega) hB) hO, ⟨Int.le_refl _, Int.le_refl _⟩, by show B 114 6 = _; omega⟩
  | succ n ih =>
    intro hn
    obtain ⟨i1, i2, i3⟩ := ih (by omega)
    have hw := (hB.2.2.2.2.2.2.2.1 n (by omega) (by omega)).1
    have e2 : (liv ru B n).1 114 2 = B 114 2 := i1.2.2.1 2 (by omega)
    rw [show m + ((n + 1 : Nat) : Int) = m + n + 1 by omega]
    unfold liv
    by_cases e : lwf ru (liv ru B n).1 (B 124 n) (B 125 n) (B 126 n) = 0
    · rw [if_pos e]
      refine ⟨(i1.wk (isW_2 e2 hw) (cn_sl (lwf_cn e))).nx, ⟨i2.1, by show (liv ru B n).2 ≤ _; omega⟩, ?_⟩
      show nx (wlk _ _ _ _) 114 6 = _
      rw [nx_6, wlk_o (by omega) (by omega) (by omega), i3]; omega
    · rw [if_neg e]
      refine ⟨i1.nx, ⟨by show 0 ≤ (liv ru B n).2 + 1; omega, by show (liv ru B n).2 + 1 ≤ _; omega⟩, ?_⟩
      show nx _ 114 6 = _
      rw [nx_6, i3]; omega
theorem LR_nx {s B : iv_M} {ql qh qf : Nat} {ru : Option (List (List (Int × Int)))} (hS : Sp ql qh qf) (h : LR s ql qh qf B ru) : LR (mu s ql 4 (B 114 6 + 1)) ql qh qf (nx B) ru := by
  obtain ⟨l0, l1, l2, l3, l4, l5, l6, l7⟩ := h
  obtain ⟨p1, p2, p3, p4, p5, p6, p7⟩ := Sp_f hS
  have hcn : cnt (nx B) ru ↔ cnt B ru := by unfold cnt; rw [nx_j (by omega)]
  refine ⟨by rw [mu_ne (by omega)]; exact l0, by rw [mu_ne (by omega)]; exact l1, HB_ext (mu_rw (by omega)) (mu_rw (by omega)) ?_, ?_, by rw [mu_ne (by omega)]; exact l4, by rw [mu_ne (by omega), hcn]; exact l5, by rw [mu_eq, nx_6], fun hc => by rw [mu_ne (by omega), ew_mm Ew_nx]; exact l7 (hcn.mp hc)⟩
  · unfold HB at l2 ⊢; rw [nx_j (by omega), nx_j (by omega), nx_j (by omega), nx_j (by omega), nx_o (by omega), nx_o (by omega)]; exact l2
  · rcases l3 with ⟨z1, z2⟩ | ⟨f, R, z1, z2, z3, z4, z5⟩
    · exact Or.inl ⟨z1, by rw [mu_ne (by omega)]; exact z2⟩
    · refine Or.inr ⟨f, R, z1, z2, z3, by rw [mu_ne (by omega)]; exact z4, ?_⟩
      have hq8 : ∀ a, (140 ≤ a ∧ a ≤ 144) ∨ (3 ≤ a ∧ a ≤ 8) → mu s ql 4 (B 114 6 + 1) a = s a := fun a ha => mu_rw (by unfold Sp at hS; omega)
      exact RUL_ext (hq8 140 (by omega)) (hq8 141 (by omega)) (hq8 142 (by omega)) (hq8 143 (by omega)) (hq8 144 (by omega)) (hq8 _ (by omega)) z5
/-- the trials' floor and laws stand for the block -/
def TrR (q : Nat) (ru : Option (List (List (Int × Int)))) (s : iv_M) (P : iv_M) (v : Int) (x : iv_M) : Prop := LW x 89 q 82 P ru ∧ x 81 2 = v ∧ (∀ i, i ≠ 2 → x 81 i = s 81 i) ∧ ∀ a, (a < 81 ∨ 90 < a) → x a = s a
theorem Sp_tr {q : Nat} (h : q = 9 ∨ q = 31) : Sp 89 q 82 := by unfold Sp; omega
theorem TF_82 : TF 82 := by unfold TF; decide
theorem begin_ok {N q : Nat} {s B : iv_M} {o3 : Int} {ru : Option (List (List (Int × Int)))} (hN : 100 ≤ N) (h : q = 9 ∨ q = 31) (hH : HR1 s q B) (hW : Wf B) (hF : FRc s (q + 1) B) (hP : FP s (q + 1) B) (hR : RuX s o3 ru) : ∃ x, FX10_begin N s 81 q o3 = some x ∧ TrR q ru s B 0 x := by
  obtain ⟨s1, c1, c2, c3, c4⟩ := FX1_copyFrom_ok (N := N) (q := 82) (p := q + 1) (s := s) (B := B) hN TF_82 hW (by omega) hF hP
  have o1 : ∀ a, (a < 82 ∨ 88 < a) → s1 a = s a := fun a ha => by funext i; exact c4 a i ha
  obtain ⟨s2, e1, e2, e3⟩ := FX3_open_ok (N := N) (ql := 89) (qh := q) (qf := 82) (s := s1) (B := B) (by omega) (Sp_tr h) (HB_ext (o1 _ (by omega)) (o1 _ (by omega)) hH.2.1) (by rw [o1 _ (by omega)]; exact hH.2.2.2.2.2.1) hW c2 (RuX_ext (fun a ha => o1 a (by omega)) hR)
  refine ⟨mu s2 81 2 0, ?_, ⟨?_, ?_, ?_⟩, mu_eq, fun i hi => ?_, fun a ha => ?_⟩
  · unfold FX10_begin
    simp only [Nat.reduceAdd]
    rw [c1, Option.bind_some, e1, Option.bind_some, pt_ok, Option.bind_some]
  · exact LR_ext (fun i _ => mu_ne (by omega)) (mu_rw (by omega)) (mu_rw (by omega)) (fun a ha => mu_rw (by omega)) e2
  · exact FRc_ext (fun a z0 z1 => by rw [mu_rw (by omega), e3 a (by omega)]) c2
  · exact FP_ext (by rw [mu_rw (by omega), e3 _ (by omega)]) c3
  · rw [mu_ne (by omega), e3 81 (by omega), o1 81 (by omega)]
  · rw [mu_rw (by omega), e3 a (by omega), o1 a (by omega)]
theorem liveOne_ok {N q : Nat} {s x P : iv_M} {v k r o m : Int} {ru : Option (List (List (Int × Int)))} (hN : 1000 ≤ N) (h : q = 9 ∨ q = 31) (hx : TrR q ru s P v x) (hP : WHm m P) (hm : m ≤ 100000) (hi : isW P k r o) (v0 : 0 ≤ v) (v1 : v ≤ 1000) : ∃ x', FX10_liveOne N x 81 (256 * k + 16 * r + o) = some x' ∧ ((lwf ru P k r o = 0 ∧ TrR q ru s (nx (wlk P k r o)) v x') ∨ (lwf ru P k r o ≠ 0 ∧ TrR q ru s (nx P) (v + 1) x')) := by
  obtain ⟨t1, t2, t3, t4⟩ := hx
  have hW := hP.1
  have a4 := hP.2.1.2.2.2.1
  obtain ⟨y, b1, b2, b3⟩ := FX3_broken_ok (N := N) (ql := 89) (qh := q) (qf := 82) hN (Sp_tr h) TF_82 (by decide) (by decide) hW t1 hi hP.2.1.1.1 hP.2.1.1.2
  have oy : ∀ a, (a < 81 ∨ 90 < a) → y a = s a := fun a ha => by rw [b3.1 a (by omega) (by omega) (by omega), t4 a ha]
  have y81 : y 81 = x 81 := b3.1 81 (by omega) (by omega) (by omega)
  unfold FX10_liveOne
  simp only [Nat.reduceAdd]
  rw [b1, Option.bind_some]
  by_cases L : lwf ru P k r o = 0
  · have sl := cn_sl (lwf_cn L)
    obtain ⟨z, g1, g2, g3, g4⟩ := go_ok (N := N) (q := 82) (s := y) (by omega) TF_82 hW b2.2.1 b2.2.2 hi sl
    have oz : ∀ a, (a < 82 ∨ 87 < a) → z a = y a := fun a ha => by funext i; exact g4 a i ha
    have hLz : LR z 89 q 82 P ru := LR_ext (fun i _ => by rw [oz 89 (by omega)]) (oz _ (by omega)) (oz _ (by omega)) (fun a ha => oz a (by omega)) b2.1
    have w4 : wlk P k r o 114 = P 114 := wlk_row (by omega) (by omega) (by omega)
    obtain ⟨u, l1, l2⟩ := FX3_look_ok (N := N) (B' := wlk P k r o) (by omega) (Sp_tr h) hLz (fun j _ => by rw [w4]) (by rw [w4]; exact hLz.2.2.2.2.2.2.1) (wlk_row (by omega) (by omega) (by omega)) (wlk_row (by omega) (by omega) (by omega)) g2 (Wf_wlk hW hi sl)
    have n4 : mu z 89 5 u 89 4 = P 114 6 := by rw [mu_ne (by omega)]; exact hLz.2.2.2.2.2.2.1
    refine ⟨mu (mu z 89 5 u) 89 4 (P 114 6 + 1), ?_, Or.inl ⟨L, ⟨?_, ?_, ?_⟩, ?_, fun i hi' => ?_, fun a ha => ?_⟩⟩
    · show (if lwf ru P k r o = 0 then _ else _) = _
      rw [if_pos L]
      unfold FX1_go FX10_liveOne_b39
      simp only [Nat.reduceAdd]
      rw [g1, Option.bind_some, Option.bind_some, l1, Option.bind_some, pt_ok, Option.bind_some, n4, w32_id (by omega) (by omega)]
    · have := LR_nx (Sp_tr h) l2
      rw [w4] at this; exact this
    · exact ew_FRc Ew_nx (FRc_ext (fun a z0 z1 => by rw [mu_rw (by omega), mu_rw (by omega)]) g2)
    · exact ew_FP Ew_nx (FP_ext (by rw [mu_rw (by omega), mu_rw (by omega)]) g3)
    · rw [mu_ne (by omega), mu_ne (by omega), oz 81 (by omega), y81]; exact t2
    · rw [mu_ne (by omega), mu_ne (by omega), oz 81 (by omega), y81]; exact t3 i hi'
    · rw [mu_rw (by omega), mu_rw (by omega), oz a (by omega), oy a ha]
  · have n4 : mu y 81 2 (v + 1) 89 4 = P 114 6 := by rw [mu_ne (by omega)]; exact b2.1.2.2.2.2.2.2.1
    refine ⟨mu (mu y 81 2 (v + 1)) 89 4 (P 114 6 + 1), ?_, Or.inr ⟨L, ⟨?_, ?_, ?_⟩, ?_, fun i hi' => ?_, fun a ha => ?_⟩⟩
    · show (if lwf ru P k r o = 0 then _ else _) = _
      rw [if_neg L]
      unfold FX10_liveOne_b39
      simp only [Nat.reduceAdd]
      rw [y81, t2, pt_ok, Option.bind_some, pt_ok, Option.bind_some, w32_id (x := v + 1) (by omega) (by omega), n4, w32_id (by omega) (by omega)]
    · refine LR_nx (Sp_tr h) (LR_ext (fun i _ => mu_ne (by omega)) (mu_rw (by omega)) (mu_rw (by omega)) (fun a ha => mu_rw (by omega)) b2.1)
    · exact ew_FRc Ew_nx (FRc_ext (fun a z0 z1 => by rw [mu_rw (by omega), mu_rw (by omega)]) b2.2.1)
    · exact ew_FP Ew_nx (FP_ext (by rw [mu_rw (by omega), mu_rw (by omega)]) b2.2.2)
    · rw [mu_ne (by omega), mu_eq]
    · rw [mu_ne (by omega), mu_ne (by omega), y81]; exact t3 i hi'
    · rw [mu_rw (by omega), mu_rw (by omega), oy a ha]
/-- one night of the almanac, by numbers -/
theorem live_step {N q : Nat} {s x B : iv_M} {m i : Int} {ru : Option (List (List (Int × Int)))} (hN : 1000 ≤ N) (h : q = 9 ∨ q = 31) (hB : WHm m B) (hm : m ≤ 50000) (hO : OZ B) (h6 : HR6 s q B) (i0 : 0 ≤ i) (i1 : i < B 114 8) (hx : TrR q ru s (liv ru B i.toNat).1 (liv ru B i.toNat).2 x) : ∃ x', FX10_liveOne N x 81 (w32 (x (q + 17) i)) = some x' ∧ TrR q ru s (liv ru B (i + 1).toNat).1 (liv ru B (i + 1).toNat).2 x' := by
  obtain ⟨f1, f2, f3⟩ := liv_ok (ru := ru) hB hO i.toNat (by omega)
  rw [Int.toNat_of_nonneg i0] at f1 f2 f3
  have a8 := hB.2.1.2.2.2.2.2.1
  have hw := (hB.2.2.2.2.2.2.2.1 i i0 i1).1
  have e2 : (liv ru B i.toNat).1 114 2 = B 114 2 := f1.2.2.1 2 (by omega)
  have hit : x (q + 17) i = 256 * B 124 i + 16 * B 125 i + B 126 i := by
    rw [hx.2.2.2 _ (by omega)]; exact h6.2.1 i i0 i1
  have hwc : 0 ≤ 256 * B 124 i + 16 * B 125 i + B 126 i ∧ 256 * B 124 i + 16 * B 125 i + B 126 i < 2000 := by
    have h12 := hB.1.1.2.2.2.2.2.1
    unfold isW at hw; omega
  have hst : (i + 1).toNat = i.toNat + 1 := by omega
  have hfs : liv ru B (i + 1).toNat = if lwf ru (liv ru B i.toNat).1 (B 124 i) (B 125 i) (B 126 i) = 0 then (nx (wlk (liv ru B i.toNat).1 (B 124 i) (B 125 i) (B 126 i)), (liv ru B i.toNat).2) else (nx (liv ru B i.toNat).1, (liv ru B i.toNat).2 + 1) := by
    rw [hst, liv, Int.toNat_of_nonneg i0]
  obtain ⟨x', g1, g2⟩ := liveOne_ok (N := N) hN h hx f1.1 (by omega) (isW_2 e2 hw) f2.1 (by omega)
  refine ⟨x', ?_, ?_⟩
  · rw [hit, w32_id (by omega) (by omega)]; exact g1
  · rw [hfs]
    rcases g2 with ⟨L, g⟩ | ⟨L, g⟩
    · rw [if_pos L]; exact g
    · rw [if_neg L]; exact g
theorem liveTo_ok {N q : Nat} {s B : iv_M} {m n o3 : Int} {ru : Option (List (List (Int × Int)))} (hN : 1000 ≤ N) (h : q = 9 ∨ q = 31) (hH : HR s q B) (hB : WHm m B) (hm : m ≤ 50000) (hO : OZ B) (hR : RuX s o3 ru) (n0 : 0 ≤ n) (n1 : n ≤ B 114 8) : ∃ x, FX10_liveTo N s 81 q o3 n = some x ∧ TrR q ru s (liv ru B n.toNat).1 (liv ru B n.toNat).2 x := by
  have a8 := hB.2.1.2.2.2.2.2.1
  have hQ2 := HQ_rows (q := q) (by unfold HQ; omega)
  obtain ⟨x0, b1, b2⟩ := begin_ok (N := N) (by omega) h hH.1 hB.1 hH.2.1.1 hH.2.1.2 hR
  obtain ⟨y, y1, y2⟩ := loop_up (L := fun m x i => FX10_liveTo_l9 N 81 q n (fun (s_1597 : iv_M) => (FX10_liveTo_b48 N s_1597)) m x i) (k := fun x => some x) (hi := n) (fun i x => 0 ≤ i ∧ TrR q ru s (liv ru B i.toNat).1 (liv ru B i.toNat).2 x) (fun m x hx => by
      show FX10_liveTo_l9 N 81 q n _ (m + 1) x n = some x
      rw [FX10_liveTo_l9, if_pos (by omega)]; rfl) (fun m i x hx hi => by
      obtain ⟨z0, z1⟩ := hx
      obtain ⟨x', g1, g2⟩ := live_step (N := N) hN h hB hm hO hH.2.2.2.2.2 z0 (by omega) z1
      refine ⟨x', ?_, by omega, g2⟩
      show FX10_liveTo_l9 N 81 q n _ (m + 1) x i = FX10_liveTo_l9 N 81 q n _ m x' (i + 1)
      have hl : ((sh (q + 16 + 1)).2 : Int) = 10 := by show ((sh (q + 17)).2 : Int) = 10; rw [hQ2.2.2.2.1]; rfl
      have hc : x (q + 16) 1 = B 114 8 := by rw [z1.2.2.2 _ (by omega)]; exact hH.2.2.2.2.2.1
      rw [FX10_liveTo_l9, if_neg (by omega), hc, if_neg (by omega), hl, rd_ok z0 (by omega), Option.bind_some]
      have g1' : FX10_liveOne N x 81 (w32 (x (q + 16 + 1) i)) = some x' := g1
      rw [g1', Option.bind_some, w32_id (by omega) (by omega)]) N 0 x0 ⟨by omega, b2⟩ n0 (by omega)
  refine ⟨y, ?_, y1.2⟩
  unfold FX10_liveTo
  rw [b1, Option.bind_some]
  exact y2
-- the reference
def LvR (ru : Option (List (List (Int × Int)))) (B s : iv_M) (n : Int) (i : Int) (x : iv_M) : Prop := 0 ≤ i ∧ Eb (liv ru B (mnI i n).toNat).1 x ∧ x 113 68 = (liv ru B (mnI i n).toNat).2 ∧ (∀ j r, 0 ≤ j → j < i → 0 ≤ r → r < 12 → x 162 (12 * j + r) = (liv ru B j.toNat).1 116 r) ∧ (∀ a, a ≠ 113 → (a < 114 ∨ 131 < a) → a ≠ 146 → a ≠ 147 → a ≠ 162 → x a = s a) ∧ ∀ j, j ≠ 26 → j ≠ 27 → j ≠ 48 → j ≠ 68 → x 113 j = s 113 j
def plM (x : iv_M) (k n : Int) : iv_M := fun a j => if a = 162 ∧ 12 * k ≤ j ∧ j < 12 * k + n then x 116 (j - 12 * k) else x a j
theorem plM_o {x : iv_M} {k n : Int} {a : Nat} (h : a ≠ 162) : plM x k n a = x a := by funext j; unfold plM; rw [if_neg (fun z => h z.1)]
theorem places_ok {N : Nat} {x : iv_M} {n k : Int} {kx : iv_M → Option iv_M} (hN : 100 ≤ N) (k0 : 0 ≤ k) (k1 : k ≤ 10) : FX12_followsSome_l14 N 113 n k kx N x 0 = kx (plM x k 12) := by
  have h0 : x = plM x k ((0 : Nat) : Int) := by funext a j; unfold plM; rw [if_neg (by omega)]
  have lp := loop_fn (L := FX12_followsSome_l14 N 113 n k kx) (k := kx) (hi := 12) (N := N) (fun i => plM x k (i : Int)) (by omega) (fun m => by rw [FX12_followsSome_l14, if_pos (by omega)]) (fun m i hi => by
    have e : plM x k (i : Int) 116 i = x 116 i := by rw [plM_o (by omega)]
    rw [FX12_followsSome_l14, if_neg (by omega)]
    simp only [Nat.reduceAdd]
    rw [rd_ok (by omega) (by omega), Option.bind_some, e, w32_id (x := 12 * k) (by omega) (by omega), w32_id (x := 12 * k + (i : Int)) (by omega) (by omega), wr_ok (by omega) (by omega), Option.bind_some, w32_id (by omega) (by omega)]
    congr 1
    funext a j
    show mu (plM x k (i : Int)) 162 (12 * k + i) (x 116 i) a j = plM x k ((i + 1 : Nat) : Int) a j
    unfold mu plM
    by_cases c1 : a = 162 ∧ j = 12 * k + i
    · rw [if_pos c1, if_pos (by omega), show j - 12 * k = (i : Int) by omega]
    · rw [if_neg c1]
      by_cases c2 : a = 162 ∧ 12 * k ≤ j ∧ j < 12 * k + (i : Int)
      · rw [if_pos c2, if_pos (by omega)]
      · rw [if_neg c2, if_neg (by omega)]) (by omega)
  have lp' : FX12_followsSome_l14 N 113 n k kx N (plM x k ((0 : Nat) : Int)) 0 = kx (plM x k 12) := lp
  rw [← h0] at lp'
  exact lp'
theorem comesDue_ok {N : Nat} {y P : iv_M} {m i : Int} {ru : Option (List (List (Int × Int)))} (hN : 1000 ≤ N) (hP : WHm m P) (hE : Eb P y) (hR : RUO y (P 114 12) ru) (i0 : 0 ≤ i) (i1 : i < 10) (hw : isW P (P 124 i) (P 125 i) (P 126 i)) : ∃ w z, FX12_comesDue N y 113 i = some (w, z) ∧ ((lwf ru P (P 124 i) (P 125 i) (P 126 i) = 0 ∧ w = 1 ∧ Eb (wlk P (P 124 i) (P 125 i) (P 126 i)) z) ∨ (lwf ru P (P 124 i) (P 125 i) (P 126 i) ≠ 0 ∧ w = 0 ∧ Eb P z)) ∧ (∀ a, a ≠ 113 → (a < 114 ∨ 131 < a) → a ≠ 146 → a ≠ 147 → z a = y a) ∧ ∀ j, j ≠ 26 → j ≠ 27 → j ≠ 48 → z 113 j = y 113 j := by
  have e4 := hE 114 (by omega) (by omega)
  have h24 := hE 124 (by omega) (by omega)
  have h25 := hE 125 (by omega) (by omega)
  have h26 := hE 126 (by omega) (by omega)
  obtain ⟨z, b1, b2, b3⟩ := FX12_lawOf_ok (N := N) (s := y) (ru := ru) hN (eb_Wf hE hP.1) (eb_isW hE hw) (by rw [e4]; exact hP.2.1.1.1) (by rw [e4]; exact hP.2.1.1.2) (by rw [e4]; exact hR)
  rw [eb_lwf hE] at b1
  have hz : Eb P z := fun a y0 y1 => by rw [b2.1 a (by omega) (by omega) (by omega), hE a y0 y1]
  unfold FX12_comesDue FX12_comesDue_b30 FX12_comesDue_b57
  simp only [Nat.reduceAdd]
  rw [rd_ok i0 i1, Option.bind_some, rd_ok i0 i1, Option.bind_some, rd_ok i0 i1, Option.bind_some, h24, h25, h26, b1, Option.bind_some]
  by_cases L : lwf ru P (P 124 i) (P 125 i) (P 126 i) = 0
  · have wk := FX12_walks_ok (N := N) (s := z) (k := P 124 i) (r := P 125 i) (o := P 126 i) (eb_Wf hz hP.1) (eb_isW hz hw) (eb_slO hz (cn_sl (lwf_cn L)))
    refine ⟨1, wlk z (P 124 i) (P 125 i) (P 126 i), ?_, Or.inl ⟨L, rfl, eb_wlk hz⟩, fun a z0 z1 z2 z3 => by rw [wlk_row (by omega) (by omega) (by omega), b2.1 a z0 z2 z3], fun j z0 z1 z2 => by rw [wlk_row (by omega) (by omega) (by omega), b2.2 j z0 z1 z2]⟩
    show (if lwf ru P (P 124 i) (P 125 i) (P 126 i) = 0 then _ else _) = _
    rw [if_pos L, if_neg (by omega)]
    dsimp only
    rw [rd_ok i0 i1, Option.bind_some, rd_ok i0 i1, Option.bind_some, rd_ok i0 i1, Option.bind_some, hz 124 (by omega) (by omega), hz 125 (by omega) (by omega), hz 126 (by omega) (by omega), wk, Option.bind_some]
    exact if_pos (Or.inr trivial)
  · refine ⟨0, z, ?_, Or.inr ⟨L, rfl, hz⟩, fun a z0 z1 z2 z3 => b2.1 a z0 z2 z3, fun j z0 z1 z2 => b2.2 j z0 z1 z2⟩
    show (if lwf ru P (P 124 i) (P 125 i) (P 126 i) = 0 then _ else _) = _
    rw [if_neg L, if_pos trivial, if_pos (Or.inl trivial)]
theorem fsStep {N f : Nat} {s B x : iv_M} {m n i : Int} {ru : Option (List (List (Int × Int)))} {kx : iv_M → Option iv_M} (hN : 1000 ≤ N) (hB : WHm m B) (hm : m ≤ 50000) (hO : OZ B) (hR : RUO s (B 114 12) ru) (n0 : 0 ≤ n) (n1 : n ≤ B 114 8) (hi : i < n + 1) (hx : LvR ru B s n i x) : ∃ x', FX12_followsSome_l7 N 113 n kx (f + 1) x i = FX12_followsSome_l7 N 113 n kx f x' (i + 1) ∧ LvR ru B s n (i + 1) x' := by
  have a8 := hB.2.1.2.2.2.2.2.1
  have a6 := hB.2.1.2.2.2.1
  obtain ⟨z0, z1, z2, z3, z4, z5⟩ := hx
  have hmn : mnI i n = i := by unfold mnI; rw [if_neg (by omega)]
  rw [hmn] at z1 z2
  obtain ⟨f1, f2, f3⟩ := liv_ok (ru := ru) hB hO i.toNat (by omega)
  rw [Int.toNat_of_nonneg z0] at f1 f2 f3
  obtain ⟨P, hP⟩ : ∃ P, P = (liv ru B i.toNat).1 := ⟨_, rfl⟩
  rw [← hP] at z1 f1 f3
  obtain ⟨p, hp⟩ : ∃ p, p = plM x i 12 := ⟨_, rfl⟩
  have po : ∀ a, a ≠ 162 → p a = x a := fun a ha => by rw [hp, plM_o ha]
  have hEp : Eb P p := fun a y0 y1 => by rw [po a (by omega), z1 a y0 y1]
  have row : ∀ j r, 0 ≤ j → j < i + 1 → 0 ≤ r → r < 12 → p 162 (12 * j + r) = (liv ru B j.toNat).1 116 r := fun j r j0 j1 r0 r1 => by
    rw [hp]
    unfold plM
    by_cases e : j = i
    · rw [e, if_pos (by omega), show 12 * i + r - 12 * i = r by omega, z1 116 (by omega) (by omega), hP]
    · rw [if_neg (by omega)]; exact z3 j r j0 (by omega) r0 r1
  by_cases e : n ≤ i
  · have hin : i = n := by omega
    have hm1 : mnI (i + 1) n = i := by unfold mnI; rw [if_pos (by omega)]; omega
    refine ⟨p, ?_, by omega, by rw [hm1, ← hP]; exact hEp, by rw [hm1, po 113 (by omega)]; exact z2, row, fun a y0 y1 y2 y3 y4 => by rw [po a y4]; exact z4 a y0 y1 y2 y3 y4, fun j y0 y1 y2 y3 => by rw [po 113 (by omega)]; exact z5 j y0 y1 y2 y3⟩
    rw [FX12_followsSome_l7, if_neg (by omega), places_ok (by omega) z0 (by omega), ← hp]
    show (if n ≤ i then _ else _) = _
    rw [if_pos e]
    unfold FX12_followsSome_b81
    rw [w32_id (by omega) (by omega)]
  · have hm1 : mnI (i + 1) n = i + 1 := by unfold mnI; rw [if_neg (by omega)]
    have hw := (hB.2.2.2.2.2.2.2.1 i z0 (by omega)).1
    have e2 : P 114 2 = B 114 2 := f1.2.2.1 2 (by omega)
    have e12 : P 114 12 = B 114 12 := f1.2.2.1 12 (by omega)
    have h24 : P 124 = B 124 := f1.2.2.2.1 124 (by omega)
    have h25 : P 125 = B 125 := f1.2.2.2.1 125 (by omega)
    have h26 : P 126 = B 126 := f1.2.2.2.1 126 (by omega)
    obtain ⟨w, z, c1, c2, c3, c4⟩ := comesDue_ok (N := N) (y := p) (P := P) (ru := ru) (i := i) hN f1.1 hEp (by rw [e12]; exact RUO_ext (fun a ha => by rw [po a (by omega), z4 a (by omega) (by omega) (by omega) (by omega) (by omega)]) hR) z0 (by omega) (by rw [h24, h25, h26]; exact isW_2 e2 hw)
    rw [h24, h25, h26] at c2
    have hst : (i + 1).toNat = i.toNat + 1 := by omega
    have hfs : liv ru B (i + 1).toNat = if lwf ru P (B 124 i) (B 125 i) (B 126 i) = 0 then (nx (wlk P (B 124 i) (B 125 i) (B 126 i)), (liv ru B i.toNat).2) else (nx P, (liv ru B i.toNat).2 + 1) := by
      rw [hst, liv, Int.toNat_of_nonneg z0, ← hP]
    have hp68 : p 113 68 = (liv ru B i.toNat).2 := by rw [po 113 (by omega)]; exact z2
    have fin : ∀ (Q : iv_M) (v : Int), Eb Q z → Q 114 6 = P 114 6 → (v = 0 ∨ v = 1) → liv ru B (i + 1).toNat = (nx Q, (liv ru B i.toNat).2 + v) → (w = 0 → v = 1) → (w ≠ 0 → v = 0) → ∃ x', FX12_followsSome_l7 N 113 n kx (f + 1) x i = FX12_followsSome_l7 N 113 n kx f x' (i + 1) ∧ LvR ru B s n (i + 1) x' := by
      intro Q v hQ hQ6 hv hl hw0 hw1
      have hz6 : z 114 6 = P 114 6 := by rw [hQ 114 (by omega) (by omega), hQ6]
      refine ⟨mu (mu z 113 68 ((liv ru B i.toNat).2 + v)) 114 6 (P 114 6 + 1), ?_, by omega, ?_, ?_, fun j r j0 j1 r0 r1 => ?_, fun a y0 y1 y2 y3 y4 => ?_, fun j y0 y1 y2 y3 => ?_⟩
      · rw [FX12_followsSome_l7, if_neg (by omega), places_ok (by omega) z0 (by omega), ← hp]
        show (if n ≤ i then _ else _) = _
        rw [if_neg e, c1, Option.bind_some]
        unfold FX12_followsSome_b66 FX12_followsSome_b81
        simp only [Nat.reduceAdd]
        have go : ∀ u, u = v → ((pt z 113 68 (w32 (p 113 68 + u))).bind fun s_4019 => ((rd s_4019 114 14 6).bind fun v_4021 => ((wr s_4019 114 14 6 (w32 (v_4021 + 1))).bind fun s_4022 => (FX12_followsSome_l7 N 113 n kx f s_4022 (w32 (i + 1)))))) = FX12_followsSome_l7 N 113 n kx f (mu (mu z 113 68 ((liv ru B i.toNat).2 + v)) 114 6 (P 114 6 + 1)) (i + 1) := fun u hu => by
          rw [hu, hp68, w32_id (x := (liv ru B i.toNat).2 + v) (by omega) (by omega), pt_ok, Option.bind_some, rd_ok (by omega) (by omega), Option.bind_some, mu_ne (by omega), hz6, w32_id (x := P 114 6 + 1) (by omega) (by omega), wr_ok (by omega) (by omega), Option.bind_some, w32_id (by omega) (by omega)]
        show (if w = 0 then _ else _) = _
        by_cases ew : w = 0
        · rw [if_pos ew]; exact go 1 (hw0 ew).symm
        · rw [if_neg ew]; exact go 0 (hw1 ew).symm
      · rw [hm1, hl]
        intro a y0 y1
        funext j
        show mu (mu z 113 68 _) 114 6 (P 114 6 + 1) a j = nx Q a j
        unfold nx
        by_cases c : a = 114 ∧ j = 6
        · rw [c.1, c.2, mu_eq, mu_eq, hQ6]
        · rw [mu_ne c, mu_ne c, mu_ne (by omega), hQ a y0 y1]
      · rw [hm1, hl, mu_ne (by omega), mu_eq]
      · rw [mu_ne (by omega), mu_ne (by omega), c3 162 (by omega) (by omega) (by omega) (by omega)]; exact row j r j0 j1 r0 r1
      · rw [mu_rw (by omega), mu_rw y0, c3 a y0 y1 y2 y3, po a y4]; exact z4 a y0 y1 y2 y3 y4
      · rw [mu_ne (by omega), mu_ne (by omega), c4 j y0 y1 y2, po 113 (by omega)]; exact z5 j y0 y1 y2 y3
    rcases c2 with ⟨L, cw, cE⟩ | ⟨L, cw, cE⟩
    · exact fin _ 0 cE (wlk_o (by omega) (by omega) (by omega)) (Or.inl rfl) (by rw [hfs, if_pos L]; congr 1; omega) (fun q => by omega) (fun _ => rfl)
    · exact fin _ 1 cE rfl (Or.inr rfl) (by rw [hfs, if_neg L]) (fun _ => rfl) (fun q => absurd cw q)
theorem followsSome_ok {N : Nat} {s B : iv_M} {m n : Int} {ru : Option (List (List (Int × Int)))} (hN : 1000 ≤ N) (hB : WHm m B) (hm : m ≤ 50000) (hO : OZ B) (hE : Eb B s) (hR : RUO s (B 114 12) ru) (n0 : 0 ≤ n) (n1 : n ≤ B 114 8) : ∃ x, FX12_followsSome N s 113 n = some x ∧ Eb (mu (liv ru B n.toNat).1 114 6 (B 114 6)) x ∧ x 113 68 = (liv ru B n.toNat).2 ∧ (∀ j r, 0 ≤ j → j ≤ n → 0 ≤ r → r < 12 → x 162 (12 * j + r) = (liv ru B j.toNat).1 116 r) ∧ (∀ a, a ≠ 113 → (a < 114 ∨ 131 < a) → a ≠ 146 → a ≠ 147 → a ≠ 162 → x a = s a) ∧ ∀ j, j ≠ 26 → j ≠ 27 → j ≠ 48 → j ≠ 68 → x 113 j = s 113 j := by
  have a8 := hB.2.1.2.2.2.2.2.1
  have a6 := hB.2.1.2.2.2.1
  have hm0 : mnI 0 n = 0 := by unfold mnI; rw [if_neg (by omega)]
  have hmn : mnI (n + 1) n = n := by unfold mnI; rw [if_pos (by omega)]
  have hR' : RUO (mu s 113 68 0) (B 114 12) ru := RUO_ext (fun a ha => mu_rw (by omega)) hR
  obtain ⟨y, y1, y2⟩ := loop_up (L := fun m x i => FX12_followsSome_l7 N 113 n (fun (s_4002 : iv_M) => ((rd s_4002 114 14 6).bind fun v_4004 => ((wr s_4002 114 14 6 (w32 (v_4004 - n))).bind fun s_4005 => some s_4005))) m x i) (k := (fun (s_4002 : iv_M) => ((rd s_4002 114 14 6).bind fun v_4004 => ((wr s_4002 114 14 6 (w32 (v_4004 - n))).bind fun s_4005 => some s_4005)))) (hi := n + 1) (LvR ru B s n) (fun m x hx => by
      show FX12_followsSome_l7 N 113 n _ (m + 1) x (n + 1) = _
      rw [FX12_followsSome_l7, if_pos (by omega)]) (fun m i x hx hi => fsStep hN hB hm hO hR n0 n1 hi hx) N 0 (mu s 113 68 0) ⟨by omega, by
        rw [hm0]
        exact fun a y0 y1 => by rw [mu_rw (by omega), hE a y0 y1]; rfl, by rw [hm0, mu_eq]; rfl, fun j r j0 j1 => by omega, fun a y0 _ _ _ _ => mu_rw y0, fun j _ _ _ y3 => mu_ne (by omega)⟩ (by omega) (by omega)
  obtain ⟨g0, g1, g2, g3, g4, g5⟩ := y1
  rw [hmn] at g1 g2
  obtain ⟨f1, f2, f3⟩ := liv_ok (ru := ru) hB hO n.toNat (by omega)
  rw [Int.toNat_of_nonneg n0] at f3
  have hy6 : y 114 6 = B 114 6 + n := by rw [g1 114 (by omega) (by omega), f3]
  refine ⟨mu y 114 6 (B 114 6), ?_, ?_, by rw [mu_ne (by omega)]; exact g2, fun j r j0 j1 r0 r1 => by rw [mu_ne (by omega)]; exact g3 j r j0 (by omega) r0 r1, fun a z0 z1 z2 z3 z4 => by rw [mu_rw (by omega)]; exact g4 a z0 z1 z2 z3 z4, fun j z0 z1 z2 z3 => by rw [mu_ne (by omega)]; exact g5 j z0 z1 z2 z3⟩
  · unfold FX12_followsSome
    simp only [Nat.reduceAdd]
    rw [pt_ok, Option.bind_some]
    refine y2.trans ?_
    show ((rd y 114 14 6).bind fun v_4004 => ((wr y 114 14 6 (w32 (v_4004 - n))).bind fun s_4005 => some s_4005)) = _
    rw [rd_ok (by omega) (by omega), Option.bind_some, hy6, w32_id (by omega) (by omega), wr_ok (by omega) (by omega), Option.bind_some, show B 114 6 + n - n = B 114 6 by omega]
  · intro a z0 z1
    funext j
    unfold mu
    rw [g1 a z0 z1]
/-- a floor laid back -/
theorem lay_back {s P : iv_M} (hW : Wf s) (hO : OZ s) (hP : OZ P) (h2 : P 114 2 = s 114 2) (ho : ∀ i, ¬ (0 ≤ i ∧ i < s 114 2) → P 116 i = s 116 i ∧ P 117 i = s 117 i) {f g : Int → Int} (hf : ∀ r, 0 ≤ r → r < s 114 2 → f r = s 116 r ∧ g r = s 117 r) : lay P f g 116 = s 116 ∧ lay P f g 117 = s 117 ∧ lay P f g 121 = s 121 := by
  refine ⟨?_, ?_, ?_⟩
  · funext i
    by_cases e : 0 ≤ i ∧ i < s 114 2
    · rw [lay_6 e.1 (by omega), (hf i e.1 e.2).1]
    · unfold lay
      rw [if_neg (by omega), if_neg (by omega), if_neg (by omega)]; exact (ho i e).1
  · funext i
    by_cases e : 0 ≤ i ∧ i < s 114 2
    · rw [lay_7 e.1 (by omega), (hf i e.1 e.2).2]
    · unfold lay
      rw [if_neg (by omega), if_neg (by omega), if_neg (by omega)]; exact (ho i e).2
  · funext c
    by_cases e : 0 ≤ c ∧ c < 16
    · rw [lay_1 e.1 e.2, h2]
      rcases invf_spec (f := f) (c := c) (s 114 2).toNat with ⟨a, b⟩ | ⟨a, b, d⟩
      · rw [a]
        rcases hW.2.1 c e.1 e.2 with z | z
        · exact z.symm
        · exact absurd (by rw [(hf _ z.1 z.2.1).1]; exact z.2.2.1) (b (s 121 c) z.1 (by omega))
      · have e1 := (hf _ a (by omega)).1
        rw [d] at e1
        have e2 := (hW.room a (by omega)).2.2.1
        rw [← e1] at e2
        exact e2.symm
    · have : ln 121 = 16 := by decide
      unfold lay
      rw [if_neg (by omega), if_neg (by omega), if_neg (by omega), hP 121 (by omega) (by omega) c (by rw [this]; exact e), hO 121 (by omega) (by omega) c (by rw [this]; exact e)]
/-- the reference lays the kept floor back: the block is as it was -/
theorem laid_back {N : Nat} {s x : iv_M} {m : Int} {P : iv_M} (hN : 100 ≤ N) (hW : Wf s) (hO : OZ s) (hL : Lok m s P) (h6 : ∀ j, x 114 j = s 114 j) (hE : ∀ a, 115 ≤ a → a ≤ 131 → x a = P a) (hk : ∀ r, 0 ≤ r → r < 12 → x 154 (2 * r) = s 116 r ∧ x 154 (2 * r + 1) = s 117 r) : ∃ x', FX12_laysFloor N x 113 154 0 = some x' ∧ Eb s x' ∧ ∀ a, (a < 114 ∨ 131 < a) → x' a = x a := by
  have h12 := hW.1.2.2.2.2.2.1
  have hr0 := hW.1.2.2.2.2.1
  have e2 : x 114 2 = s 114 2 := h6 2
  have ly := FX12_laysFloor_ok (N := N) (q := 154) (s := x) (b := 0) (m := 24) hN (by omega) (by decide) (by omega) (by omega) (by rw [e2]; exact hr0) (by rw [e2]; exact h12) (fun r r0 r1 => by
    rw [e2] at r1
    obtain ⟨g1, g2, _⟩ := hW.room r0 r1
    have := (hk r r0 (by omega)).1
    rw [show 0 + 2 * r = 2 * r by omega, this]; exact ⟨g1, g2⟩)
  have hOx : OZ x := fun a a0 a1 i hi => by
    by_cases e : a = 114
    · subst e; rw [h6]; exact hO 114 a0 a1 i hi
    · rw [hE a (by omega) a1]; exact hL.2.1 a a0 a1 i hi
  have lb := lay_back (s := s) (P := x) (f := fun r => x 154 (0 + 2 * r)) (g := fun r => x 154 (0 + 2 * r + 1)) hW hO hOx e2 (fun i hi => by rw [hE 116 (by omega) (by omega), hE 117 (by omega) (by omega)]; exact hL.2.2.2.2 i hi) (fun r r0 r1 => by
    have := hk r r0 (by omega)
    show x 154 (0 + 2 * r) = _ ∧ x 154 (0 + 2 * r + 1) = _
    rw [show 0 + 2 * r = 2 * r by omega]; exact this)
  refine ⟨_, ly, fun a z0 z1 => ?_, fun a ha => lay_o (by omega) (by omega) (by omega)⟩
  by_cases c6 : a = 116
  · subst c6; exact lb.1
  · by_cases c7 : a = 117
    · subst c7; exact lb.2.1
    · by_cases c1 : a = 121
      · subst c1; exact lb.2.2
      · rw [lay_o c6 c7 c1]
        by_cases c4 : a = 114
        · subst c4; funext j; exact h6 j
        · rw [hE a (by omega) z1, hL.2.2.2.1 a (by omega)]
theorem mnJ {B : iv_M} {m : Int} {P : iv_M} (h : Lok m B P) : ∀ j, mu P 114 6 (B 114 6) 114 j = B 114 j := fun j => by
  by_cases e : j = 6
  · rw [e, mu_eq]
  · rw [mu_ne (by omega), h.2.2.1 j e]
theorem ct_would {t : Int} {N : Nat} {s : iv_M} {x y z : Int} (hN : 1000 ≤ N) (h : Inv t s) (t0 : 0 ≤ t) (t1 : t ≤ 1000) : ∃ a s1 s2, FX11_would N s 0 x y z = some (a, s1) ∧ FX12_would N s1 113 x y z = some (a, s2) ∧ Inv (t + 1) s2 := by
  have hI := h
  obtain ⟨h1, h2, h3, h4, h5, h6, h7, h8, h9, h10⟩ := h
  obtain ⟨n1, n2, n3⟩ := now_ne h1
  have hn := (now_HQ h1).2.1
  have hq : (s 0 4).toNat = now s := rfl
  obtain ⟨hW, ⟨_, _, _, _, _, a8, _, _, _, p12, _⟩, _⟩ := id h3
  have h12 := hW.1.2.2.2.2.2.1
  have hc16 : s (now s + 16) 1 = s 114 8 := h2.2.2.2.2.2.1
  by_cases C : (0 ≤ x ∧ x < s 114 2) ∧ (0 ≤ y ∧ y ≤ s 114 8) ∧ (0 ≤ z ∧ z ≤ 2)
  rotate_left
  · refine ⟨-1, s, s, ?_, ?_, HR1_mono (by omega) hI⟩
    · unfold FX11_would FX11_would_b38
      rw [hq, FX2_isRoom_ok h2.2.1.1, Option.bind_some, hc16]
      by_cases r : 0 ≤ x ∧ x < s 114 2
      · rw [if_pos r, if_neg (by omega)]
        by_cases y0 : y < 0
        · rw [if_pos y0]
        rw [if_neg y0]
        by_cases y1 : s 114 8 < y
        · rw [if_pos y1]
        rw [if_neg y1]
        by_cases z0 : z < 0
        · rw [if_pos z0]
        rw [if_neg z0, if_neg (fun z1 => C ⟨r, ⟨by omega, by omega⟩, by omega, z1⟩)]
      · rw [if_neg r, if_pos rfl]
    · unfold FX12_would FX12_would_b37
      simp only [Nat.reduceAdd]
      rw [FX12_isRoom_ok hW.1, Option.bind_some]
      by_cases r : 0 ≤ x ∧ x < s 114 2
      · rw [if_pos r, if_neg (by omega), rd_ok (by omega) (by omega), Option.bind_some, FX12_in_ok, Option.bind_some]
        by_cases w : 0 ≤ y ∧ y ≤ s 114 8
        · rw [if_pos w, if_neg (by omega), FX12_in_ok, Option.bind_some, if_neg (show ¬ (0 ≤ z ∧ z ≤ 2) from fun u => C ⟨r, w, u⟩), if_pos rfl]
        · rw [if_neg w, if_pos rfl]
      · rw [if_neg r, if_pos rfl]
  obtain ⟨r, w, u⟩ := C
  obtain ⟨ru, hR⟩ := Rl_RUO h5 p12
  obtain ⟨o3, e1, e2⟩ := ruleIn_ok (N := N) hq h2.1.2.2.2.2.1 h5.2.2.2.1 h5.2.2.1 hR
  obtain ⟨s1, c1, c2⟩ := liveTo_ok (N := N) (q := now s) (s := s) (B := s) (n := y) hN hn h2 (WH_m.mp h3) (by omega) h10 e2 w.1 w.2
  obtain ⟨f1, f2, f3⟩ := liv_ok (ru := ru) (WH_m.mp h3) h10 y.toNat (by omega)
  rw [Int.toNat_of_nonneg w.1] at f1 f2 f3
  obtain ⟨P, hP⟩ : ∃ P, P = (liv ru s y.toNat).1 := ⟨_, rfl⟩
  obtain ⟨v, hv⟩ : ∃ v, v = (liv ru s y.toNat).2 := ⟨_, rfl⟩
  rw [← hP, ← hv] at c2
  rw [← hP] at f1 f3
  rw [← hv] at f2
  obtain ⟨⟨_, dF, dP⟩, d2, d3, d4⟩ := c2
  have e42 : P 114 2 = s 114 2 := f1.2.2.1 2 (by omega)
  obtain ⟨q1, q2⟩ := dF.cell f1.1.1 r.1 (by rw [e42]; exact r.2)
  have hb : Eb s s1 := fun a z0 z1 => d4 a (by omega)
  have e114 := hb 114 (by omega) (by omega)
  have hcl : FX11_would N s 0 x y z = some (if z = 2 then v else if z = 0 then P 116 x else P 117 x, s1) := by
    unfold FX11_would FX11_would_b100
    simp only [Nat.reduceAdd, Nat.zero_add]
    rw [hq, FX2_isRoom_ok h2.2.1.1, Option.bind_some, hc16, if_pos r, if_neg (by omega), if_neg (by omega), if_neg (by omega), if_neg (by omega), if_pos u.2, e1, Option.bind_some, c1, Option.bind_some, d2]
    by_cases z2 : z = 2
    · rw [if_pos z2, if_pos z2]
    · rw [if_neg z2, if_neg z2]
      by_cases z0 : z = 0
      · rw [if_pos z0, if_pos z0, rd_ok r.1 (by omega), Option.bind_some]
        have : s1 83 x = P 116 x := q1
        rw [this]
      · rw [if_neg z0, if_neg z0, rd_ok r.1 (by omega), Option.bind_some]
        have : s1 84 x = P 117 x := q2
        rw [this]
  -- the reference
  obtain ⟨K, hK⟩ : ∃ K, K = flF s1 154 0 12 := ⟨_, rfl⟩
  have Ko : ∀ a, a ≠ 154 → K a = s1 a := fun a ha => by rw [hK, flF_o ha]
  have hbK : Eb s K := fun a z0 z1 => by rw [Ko a (by omega), hb a z0 z1]
  obtain ⟨X, x1, x2, x3, x4, x5, x6⟩ := followsSome_ok (N := N) (s := K) (B := s) (ru := ru) (n := y) hN (WH_m.mp h3) (by omega) h10 hbK (RUO_ext (fun a ha => by rw [Ko a (by omega), d4 a (by omega)]) hR) w.1 w.2
  rw [← hP] at x2
  rw [← hv] at x3
  have X154 : X 154 = K 154 := x5 154 (by omega) (by omega) (by omega) (by omega) (by omega)
  obtain ⟨Y, y1, y2, y3⟩ := laid_back (N := N) (s := s) (x := X) (P := P) (by omega) hW h10 f1 (fun j => by rw [x2 114 (by omega) (by omega)]; exact mnJ f1 j) (fun a z0 z1 => by rw [x2 a (by omega) z1, mu_rw (by omega)]) (fun r r0 r1 => by
    rw [X154, hK]
    have := flF_c (s := s1) (q := 154) (b := 0) r0 r1
    rw [show (0 : Int) + 2 * r = 2 * r by omega, hb 116 (by omega) (by omega), hb 117 (by omega) (by omega)] at this
    exact this)
  have X6 : X 116 x = P 116 x := by rw [x2 116 (by omega) (by omega), mu_rw (by omega)]
  have X7 : X 117 x = P 117 x := by rw [x2 117 (by omega) (by omega), mu_rw (by omega)]
  have hrf : FX12_would N s1 113 x y z = some (if z = 2 then v else if z = 0 then P 116 x else P 117 x, Y) := by
    unfold FX12_would FX12_would_b84
    simp only [Nat.reduceAdd]
    rw [FX12_isRoom_ok (eb_Wf hb hW).1, Option.bind_some, e114, if_pos r, if_neg (by omega), rd_ok (by omega) (by omega), Option.bind_some, e114, FX12_in_ok, Option.bind_some, if_pos w, if_neg (by omega), FX12_in_ok, Option.bind_some, if_pos u, if_neg (by omega), FX12_fillsFloor_ok (m := 24) (by omega) (by omega) (by decide) (by omega) (by omega), Option.bind_some, ← hK, x1, Option.bind_some, y1]
    by_cases z0 : z = 0
    · rw [if_pos z0, rd_ok r.1 (by omega), Option.bind_some, X6, if_neg (by omega), if_pos z0]; rfl
    · rw [if_neg z0]
      by_cases z1 : z = 1
      · rw [if_pos z1, rd_ok r.1 (by omega), Option.bind_some, X7, if_neg (by omega), if_neg z0]; rfl
      · rw [if_neg z1, x3, if_pos (by omega)]; rfl
  refine ⟨_, s1, Y, hcl, hrf, ?_⟩
  have far : ∀ a, a ≠ 113 → (a < 114 ∨ 131 < a) → a ≠ 146 → a ≠ 147 → a ≠ 162 → a ≠ 154 → Y a = s1 a := fun a z0 z1 z2 z3 z4 z5 => by rw [y3 a z1, x5 a z0 z1 z2 z3 z4, Ko a z5]
  have hc : s1 0 = s 0 := d4 0 (by omega)
  have h81 : ∀ i, i ≠ 2 → s1 81 i = s 81 i := d3
  have h15 := h9.1
  have m81 : Y 81 = s1 81 := far 81 (by omega) (by omega) (by omega) (by omega) (by omega) (by omega)
  have hmR : MeR Y := by
    obtain ⟨b1, b2, b3⟩ := h8
    refine ⟨by rw [m81, h81 7 (by omega)]; exact b1, by rw [m81, h81 7 (by omega), far 0 (by omega) (by omega) (by omega) (by omega) (by omega) (by omega), hc]; exact b2, fun q => ?_⟩
    rw [m81, h81 7 (by omega), far 0 (by omega) (by omega) (by omega) (by omega) (by omega) (by omega), hc] at q
    have hr := b3 q
    intro ru' hru'
    have hre : RUO s (s 114 12) ru' := by
      rw [y2 114 (by omega) (by omega)] at hru'
      exact RUO_ext (fun a ha => by rw [far a (by omega) (by omega) (by omega) (by omega) (by omega) (by omega), d4 a (by omega)]) hru'
    have hru2 := hr ru' hre
    have hrl : ∀ n, rowsL ru' n Y = rowsL ru' n s := fun n => er_rowsL n s Y (Er.of_eb y2)
    rw [m81, h81 8 (by omega), far 97 (by omega) (by omega) (by omega) (by omega) (by omega) (by omega), far 96 (by omega) (by omega) (by omega) (by omega) (by omega) (by omega), d4 97 (by omega), d4 96 (by omega), hrl]
    exact hru2
  have hmS : MeS Y := by
    obtain ⟨b1, b2, b3⟩ := h7
    have m64 : Y 64 = s 64 := by rw [far 64 (by omega) (by omega) (by omega) (by omega) (by omega) (by omega), d4 64 (by omega)]
    have m80 : Y 80 = s 80 := by rw [far 80 (by omega) (by omega) (by omega) (by omega) (by omega) (by omega), d4 80 (by omega)]
    refine ⟨by rw [m64]; exact b1, by rw [m64, far 0 (by omega) (by omega) (by omega) (by omega) (by omega) (by omega), hc]; exact b2, fun q => ?_⟩
    rw [m64, far 0 (by omega) (by omega) (by omega) (by omega) (by omega) (by omega), hc] at q
    exact SOK_er (Er.of_eb y2) m64 m80 (fun a ha => by rw [far a (by omega) (by omega) (by omega) (by omega) (by omega) (by omega), d4 a (by omega)]) (b3 q)
  refine Inv_bk (s1 := s1) hI (by omega) (fun i _ => by rw [hc]) (by rw [hc]; omega) (fun a ha => d4 a (by omega)) (HR_ext (fun a z0 z1 => d4 a (by omega)) h2) (WH_mono (by omega) h3) h5.2.2.2.1 h10 (fun a ha => far a (by omega) (by omega) (by omega) (by omega) (by omega) (by omega)) (fun i hi => by rw [y3 113 (by omega), x6 i (by omega) (by omega) (by omega) (by omega), Ko 113 (by omega)]) y2 ⟨hmS, hmR⟩
