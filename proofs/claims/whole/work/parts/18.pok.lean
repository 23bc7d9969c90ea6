-- THE PROGRAM'S TABLES ARE TRUE, second part
theorem iv_mi_at {a : Nat} (h1 : a ≠ 9001) (h2 : a ≠ 9002) (h : a < iv_Z.length) : PG.2 a = some (iv_mi a) := by
  unfold PG iv_mi
  dsimp only
  rw [if_neg h1, if_neg h2, if_neg h1, if_neg h2, List.getElem?_eq_getElem h, List.getD_eq_getElem?_getD, List.getElem?_eq_getElem h]
  rfl
theorem iv_mi_s {a : Nat} (h : a = 9001 ∨ a = 9002) : PG.2 a = some (iv_mi a) := by
  rcases h with rfl | rfl <;> rfl
set_option maxRecDepth 100000 in
theorem iv_law_351 : (iv_Z[351]?).map (fun q => q.1.2.2.2.2) = some 13 := by decide +kernel
set_option maxRecDepth 100000 in
theorem iv_no13 : (List.range 351).all (fun a => decide (((iv_Z[a]?).map fun q => q.1.2.2.2.2) ≠ some 13)) = true := by decide +kernel
theorem iv_code_at {a : Nat} (h : (a = 9001 ∨ a = 9002) ∨ a < 351) : Cond.code (iv_mi a).1 (iv_mi a).2.1 (iv_mi a).2.2.1 (iv_mi a).2.2.2.1 ∈ lw_g := by
  have key : ∀ m : iv_I, iv_cw m → m.2.2.2.2 ≠ 13 → Cond.code m.1 m.2.1 m.2.2.1 m.2.2.2.1 ∈ lw_g := fun m h h2 => h.elim (fun z => absurd z h2) id
  rcases h with (rfl | rfl) | h
  · exact key iv_mLen iv_VL (by decide)
  · exact key iv_mAt iv_VA (by decide)
  · have hl : a < iv_Z.length := by rw [iv_Z_len]; omega
    have e1 : iv_mi a = (iv_Z[a]).1 := by
      unfold iv_mi
      rw [if_neg (by omega), if_neg (by omega), List.getD_eq_getElem?_getD, List.getElem?_eq_getElem hl]
      rfl
    rw [e1]
    refine key _ (iv_V _ (List.getElem_mem hl)) ?_
    have := of_decide_eq_true (List.all_eq_true.mp iv_no13 a (List.mem_range.mpr h))
    rw [List.getElem?_eq_getElem hl] at this
    exact fun z => this (congrArg some z)
theorem iv_mlb_at {e : Nat × Nat × Nat × Nat × Nat × Nat × Nat} (h : iv_mlb e = true) (h0 : e.2.2.2.1 ≠ 9000) (h3 : e.2.2.2.1 ≠ 9003) (h4 : e.2.2.2.1 ≠ 9004) (h5 : e.2.2.2.1 ≠ 9005) : PG.2 e.2.2.2.1 = some (iv_mi e.2.2.2.1) ∧ Cond.code (iv_mi e.2.2.2.1).1 (iv_mi e.2.2.2.1).2.1 (iv_mi e.2.2.2.1).2.2.1 (iv_mi e.2.2.2.1).2.2.2.1 ∈ lw_g ∧ iv_par (iv_mi e.2.2.2.1).1 e.2.2.2.2.1 = true ∧ iv_mwb (iv_mi e.2.2.2.1) (iv_mw e.2.2.2.1) = true ∧ (iv_mw e.2.2.2.1).2.2.1 = (if e.2.2.2.2.2.2 = 2 then 1 else 0) ∧
    (if e.2.2.2.2.2.1 = 1 then Cond.methodLinkNest (iv_cn e.2.1) e.2.2.1 (iv_mi e.2.2.2.1).1 "WalkingRooms" ∈ iv_nest else Cond.methodLink (iv_cn e.2.1) e.2.2.1 (iv_mi e.2.2.2.1).1 ∈ lw_g) ∧
    (e.2.2.2.2.2.2 = 0 → Cond.selects (iv_mi e.2.2.2.1).1.cls (iv_mi e.2.2.2.1).1 (iv_mi e.2.2.2.1).1 ∈ lw_g ∧ (if e.2.2.2.1 = 9001 ∨ e.2.2.2.1 = 9002 then (iv_mi e.2.2.2.1).1.cls = "java/lang/String" else (iv_mi e.2.2.2.1).2.2.2.2 < 13 ∧ (iv_mi e.2.2.2.1).1.cls = iv_cn (iv_mi e.2.2.2.1).2.2.2.2)) ∧
    (e.2.2.2.2.2.2 = 1 → (iv_mi e.2.2.2.1).1.name = "<init>" ∧ (iv_mi e.2.2.2.1).2.2.2.1 = none) := by
  obtain ⟨ps, oc, x, a, k, ne, kd⟩ := e
  dsimp only at h0 h3 h4 h5 ⊢
  unfold iv_mlb at h
  dsimp only at h
  rw [if_neg h0, if_neg h3, if_neg h4, if_neg h5] at h
  simp only [Bool.and_eq_true, decide_eq_true_eq] at h
  obtain ⟨⟨⟨⟨⟨g0, g2⟩, g4⟩, g5⟩, g6⟩, g7⟩ := h
  have gu := List.all_eq_true.mp iv_UM_ok a (List.contains_iff_mem.mp g0)
  unfold iv_umb at gu
  rw [Bool.and_eq_true] at gu
  obtain ⟨g1, g3⟩ := gu
  have g1 := of_decide_eq_true g1
  refine ⟨?_, iv_code_at g1, g2, g3, g4, ?_, fun hk => ?_, fun hk => ?_⟩
  · by_cases hs : a = 9001 ∨ a = 9002
    · exact iv_mi_s hs
    · exact iv_mi_at (fun z => hs (Or.inl z)) (fun z => hs (Or.inr z)) (by rw [iv_Z_len]; rcases g1 with g1 | g1; exact absurd g1 hs; omega)
  · split at g5
    · next hn => rw [if_pos hn]; exact List.mem_filter.mpr ⟨List.mem_of_getElem? (of_decide_eq_true g5), rfl⟩
    · next hn => rw [if_neg hn]; exact iv_atb_ok g5
  · rw [if_pos hk, Bool.and_eq_true] at g6
    refine ⟨iv_atb_ok g6.1, ?_⟩
    have g8 := g6.2
    split at g8
    · next hs => rw [if_pos hs]; exact of_decide_eq_true g8
    · next hs =>
      rw [if_neg hs]
      simp only [Bool.and_eq_true, decide_eq_true_eq] at g8
      exact g8
  · rw [if_pos hk] at g7
    simp only [Bool.and_eq_true, decide_eq_true_eq] at g7
    exact g7
theorem iv_mwb_ok {q : iv_I} {w : Nat × Nat × Nat × Nat × Nat} (h : iv_mwb q w = true) : Cond.initialized q.1.cls ∈ lw_g ∧ (if w.2.2.1 = 1 then Cond.static q.1 ∈ lw_g else Cond.instanceMethod q.1 ∈ lw_g) ∧ q.2.2.1 ≤ 40 ∧ q.1.cls ≠ "java/lang/invoke/MethodHandle" ∧ q.1.cls ≠ "java/lang/invoke/VarHandle" := by
  unfold iv_mwb at h
  simp only [Bool.and_eq_true, decide_eq_true_eq] at h
  obtain ⟨⟨⟨⟨h2, h3⟩, h4⟩, h5⟩, h6⟩ := h
  refine ⟨iv_atb_ok h2, ?_, h4, h5, h6⟩
  split at h3
  · next hw => rw [if_pos hw]; exact iv_atb_ok h3
  · next hw => rw [if_neg hw]; exact iv_atb_ok h3
theorem iv_kI_at {oc x : Nat} {sw : List (Int × Nat)} (h : (match sw with | [q] => iv_KI.any (fun e => e.2 == (oc, x, q.1)) | _ => false) = true) : ∀ q r, sw = q :: r → Cond.constant (iv_cn oc) x (Int32.ofInt q.1) ∈ lw_g := by
  intro q r hq
  subst hq
  cases r with
  | nil =>
    obtain ⟨e, he, h3⟩ := List.any_eq_true.mp h
    have h4 := List.all_eq_true.mp iv_KI_ok e he
    rw [eq_of_beq h3] at h4
    exact iv_atb_ok h4
  | cons z r => cases h
theorem iv_ck_kst {oc a b : Nat} {mi : Bool} {i : Instr} {sw : List (Int × Nat)} (h : iv_ck oc mi i a b sw = true) : iv_kst iv_tx (iv_cn oc) i a b sw := by
  have str : ∀ {x : Nat}, (decide (iv_big ≤ a) && iv_SX.any (fun e => e == (oc, x, a))) = true → iv_big ≤ a ∧ ∃ t, (iv_cn oc, x, t, a) ∈ iv_tx := by
    intro x h
    simp only [Bool.and_eq_true, decide_eq_true_eq] at h
    obtain ⟨h1, h2⟩ := h
    obtain ⟨e, he, h3⟩ := List.any_eq_true.mp h2
    have h4 := List.all_eq_true.mp iv_SX_ok e he
    rw [eq_of_beq h3] at h4
    obtain ⟨t, ht, h5⟩ := List.any_eq_true.mp h4
    have h6 := of_decide_eq_true h5
    dsimp only at h6
    refine ⟨h1, t.2.2.1, ?_⟩
    rw [← h6.1, ← h6.2.1, ← h6.2.2]
    exact ht
  unfold iv_ck at h
  unfold iv_kst
  cases i <;> try trivial
  case ldc x =>
    dsimp only at h ⊢
    split at h
    · next hb => rw [if_pos hb]; exact str h
    · next hb => rw [if_neg hb]; exact iv_kI_at h
  case ldc_w x =>
    dsimp only at h ⊢
    split at h
    · next hb => rw [if_pos hb]; exact str h
    · next hb => rw [if_neg hb]; exact iv_kI_at h
  case ldc2_w x =>
    intro q r hq
    subst hq
    cases r with
    | nil =>
      obtain ⟨e, he, h3⟩ := List.any_eq_true.mp h
      have h4 := List.all_eq_true.mp iv_KJ_ok e he
      rw [eq_of_beq h3] at h4
      exact iv_atb_ok h4
    | cons z r => cases h
theorem iv_FL_at {oc x a b : Nat} (h : iv_FL.any (fun e => e.2 == (oc, x, a, b)) = true) : a < 13 ∧ b < iv_fN a ∧ Cond.fieldLink (iv_cn oc) x (iv_fT a b).1 (iv_fT a b).2.1 (iv_fT a b).2.2.1 ∈ lw_g := by
  obtain ⟨e, he, h3⟩ := List.any_eq_true.mp h
  have h4 := List.all_eq_true.mp iv_FL_ok e he
  rw [eq_of_beq h3] at h4
  simp only [Bool.and_eq_true, decide_eq_true_eq] at h4
  exact ⟨h4.1.1, h4.1.2, iv_atb_ok h4.2⟩
theorem iv_CL_at {oc x : Nat} {C : String} (h : iv_CL.any (fun e => decide (e.2.1 = oc ∧ e.2.2.1 = x ∧ e.2.2.2 = C)) = true) : Cond.classLink (iv_cn oc) x C ∈ lw_g := by
  obtain ⟨e, he, h3⟩ := List.any_eq_true.mp h
  have h4 := List.all_eq_true.mp iv_CL_ok e he
  obtain ⟨h5, h6, h7⟩ := of_decide_eq_true h3
  rw [← h5, ← h6, ← h7]
  exact iv_atb_ok h4
theorem iv_ML_at {oc x a k ne kd : Nat} (h : iv_ML.any (fun e => e.2 == (oc, x, a, k, ne, kd)) = true) : ∃ ps, iv_mlb (ps, oc, x, a, k, ne, kd) = true := by
  obtain ⟨e, he, h3⟩ := List.any_eq_true.mp h
  have h4 := List.all_eq_true.mp iv_ML_ok e he
  obtain ⟨ps, e2⟩ := e
  have := eq_of_beq h3
  dsimp only at this
  subst this
  exact ⟨ps, h4⟩
theorem iv_ck_hok {oc a b : Nat} {mn : String} {i : Instr} {sw : List (Int × Nat)} (h : iv_ck oc (decide (mn = "<init>")) i a b sw = true) : iv_hok lw_g iv_df (iv_cn oc) mn i a b sw := by
  unfold iv_ck at h
  unfold iv_hok
  cases i <;> try trivial
  case getfield x =>
    obtain ⟨h1, h2, h3⟩ := iv_FL_at h
    exact ⟨_, _, _, _, iv_cla h1, h2, h3⟩
  case putfield x =>
    dsimp only at h ⊢
    rw [Bool.and_eq_true] at h
    obtain ⟨h1, h2, h3⟩ := iv_FL_at h.1
    have h4 := h.2
    split at h4
    · next q =>
      rw [Bool.and_eq_true] at h4
      have hq0 := of_decide_eq_true h4.2
      obtain ⟨e, he, h5⟩ := List.any_eq_true.mp h4.1
      have h6 := List.all_eq_true.mp iv_PF_ok e he
      simp only [Bool.and_eq_true, decide_eq_true_eq] at h6
      obtain ⟨⟨f1, f2⟩, f3⟩ := h6
      have hty : ∀ t : Nat, t = q.1.toNat → iv_tyb t (iv_fY a b) = true → ∀ q' r, [q] = q' :: r → iv_tyo q'.1 (iv_fY a b) := by
        intro t ht hb q' r hq
        cases hq
        have := iv_tyb_ok hb
        rw [ht, Int.toNat_of_nonneg hq0] at this
        exact this
      rw [Bool.or_eq_true] at h5
      rcases h5 with h5 | h5
      · have e1 := eq_of_beq h5
        subst e1
        exact ⟨_, _, _, _, iv_cla h1, h2, h3, Or.inl (by rw [f1]; rfl), hty _ rfl f2⟩
      · simp only [Bool.and_eq_true, decide_eq_true_eq] at h5
        obtain ⟨⟨h7, h8⟩, h9⟩ := h5
        have e1 := eq_of_beq h7
        subst e1
        exact ⟨_, _, _, _, iv_cla h1, h2, h3, Or.inr ⟨by rw [f1]; rfl, h8, by rw [h9]; exact f3⟩, hty _ rfl f2⟩
    · cases h4
  case getstatic x =>
    obtain ⟨rfl, rfl, rfl⟩ := of_decide_eq_true h
    exact ⟨rfl, _, iv_GP_ok⟩
  case new x =>
    dsimp only at h ⊢
    rw [Bool.and_eq_true] at h
    have ha := of_decide_eq_true h.2
    have hi := List.all_eq_true.mp iv_IP_ok a (List.mem_range.mpr ha)
    rw [Bool.and_eq_true] at hi
    exact ⟨_, _, _, _, iv_cla ha, iv_CL_at h.1, iv_atb_ok hi.1, iv_atb_ok hi.2⟩
  case anewarray x => exact iv_CL_at h
  case multianewarray x k =>
    dsimp only at h ⊢
    rw [Bool.and_eq_true] at h
    have ha := iv_AP_ok
    simp only [Bool.and_eq_true] at ha
    exact ⟨of_decide_eq_true h.1, iv_CL_at h.2, iv_atb_ok ha.1.1.1⟩
  case newarray t =>
    have ha := iv_AP_ok
    simp only [Bool.and_eq_true] at ha
    cases t <;> (first | (cases h; done) | skip)
    · exact iv_atb_ok ha.2
    · exact iv_atb_ok ha.1.2
    · exact iv_atb_ok ha.1.1.1
    · exact iv_atb_ok ha.1.1.2
  case invokestatic x =>
    have hn := iv_NP_ok
    simp only [Bool.and_eq_true] at hn
    have hp := iv_XP_ok
    simp only [Bool.and_eq_true] at hp
    obtain ⟨ps, hm⟩ := iv_ML_at h
    unfold iv_mlb at hm
    dsimp only at hm
    refine ⟨fun ha => ?_, fun ha => ?_, fun ha => ?_⟩ <;> subst ha
    · rw [if_neg (by decide), if_pos rfl, Bool.and_eq_true] at hm
      exact ⟨iv_atb_ok hm.1, iv_atb_ok hn.1.1.1.1, iv_atb_ok hn.1.1.1.2, iv_atb_ok hn.1.1.2⟩
    · rw [if_neg (by decide), if_neg (by decide), if_pos rfl, Bool.and_eq_true] at hm
      exact ⟨iv_atb_ok hm.1, iv_atb_ok hp.1.1.1.1, iv_atb_ok hp.1.1.2, iv_atb_ok hp.1.2⟩
    · rw [if_neg (by decide), if_neg (by decide), if_neg (by decide), if_pos rfl, Bool.and_eq_true] at hm
      exact ⟨iv_atb_ok hm.1, iv_atb_ok hp.1.1.1.2, iv_atb_ok hp.1.1.2, iv_atb_ok hp.2⟩
  case invokespecial x =>
    intro ha
    subst ha
    have hn := iv_NP_ok
    simp only [Bool.and_eq_true] at hn
    dsimp only at h
    rw [Bool.and_eq_true, Bool.or_eq_true] at h
    have key : ∀ {ps ne : Nat}, iv_mlb (ps, oc, x, 9000, b - 1, ne, 1) = true → Cond.methodLink (iv_cn oc) x Lib.objectInit ∈ lw_g := by
      intro ps ne hm
      unfold iv_mlb at hm
      dsimp only at hm
      rw [if_pos rfl, Bool.and_eq_true] at hm
      exact iv_atb_ok hm.1
    refine ⟨?_, iv_atb_ok hn.1.2, iv_atb_ok hn.2⟩
    rcases h.1 with h | h
    · obtain ⟨ps, hm⟩ := iv_ML_at h; exact key hm
    · obtain ⟨ps, hm⟩ := iv_ML_at h; exact key hm
theorem iv_cal_of {oc x a k ne kd ps b : Nat} {st : Bool} (h : iv_mlb (ps, oc, x, a, k, ne, kd) = true) (h0 : a ≠ 9000) (h3 : a ≠ 9003) (h4 : a ≠ 9004) (h5 : a ≠ 9005) (hst : st = decide (kd = 2)) (hb : b = (if st then k else k + 1)) (hne : kd = 2 → ne ≠ 1) : iv_cal PG (iv_cn oc) x a b k st := by
  obtain ⟨g1, w1, g2, g3, g4, g5, -, -⟩ := iv_mlb_at h h0 h3 h4 h5
  dsimp only at g1 w1 g2 g3 g4 g5
  obtain ⟨w2, w3, w4, w5, w6⟩ := iv_mwb_ok g3
  generalize hq : iv_mi a = q at g1 g2 g3 g5 w1 w2 w3 w4 w5 w6
  obtain ⟨y, cc, n, rt, oc'⟩ := q
  refine ⟨y, cc, n, rt, oc', g1, w4, ⟨w5, w6⟩, of_decide_eq_true g2, hb, w1, w2, ?_⟩
  rw [g4] at w3
  by_cases hk : kd = 2
  · rw [hst, decide_eq_true hk]
    rw [if_pos hk, if_pos rfl] at w3
    rw [if_neg (hne hk)] at g5
    exact ⟨w3, g5⟩
  · rw [hst, decide_eq_false hk]
    rw [if_neg hk, if_neg (by decide)] at w3
    exact w3
theorem iv_ck_cok {oc a b : Nat} {mi : Bool} {i : Instr} {sw : List (Int × Nat)} (h : iv_ck oc mi i a b sw = true) : iv_cok PG (iv_cn oc) i a b := by
  unfold iv_ck at h
  unfold iv_cok
  cases i <;> try trivial
  case invokevirtual x =>
    dsimp only at h ⊢
    rw [Bool.and_eq_true] at h
    have hb1 := of_decide_eq_true h.2
    obtain ⟨ps, hm⟩ := iv_ML_at h.1
    have h0 : a ≠ 9000 := by rintro rfl; simp [iv_mlb] at hm
    have h3 : a ≠ 9003 := by rintro rfl; simp [iv_mlb] at hm
    have h4 : a ≠ 9004 := by rintro rfl; simp [iv_mlb] at hm
    have h5 : a ≠ 9005 := by rintro rfl; simp [iv_mlb] at hm
    refine ⟨b - 1, iv_cal_of hm h0 h3 h4 h5 rfl (by simp; omega) (by omega), ?_⟩
    intro y cc n rt oc' hP
    obtain ⟨g1, -, -, -, -, g5, g6, -⟩ := iv_mlb_at hm h0 h3 h4 h5
    dsimp only at g1 g5 g6
    have e := g1.symm.trans hP
    cases hq : iv_mi a
    rw [hq] at e g5 g6
    cases e
    rw [if_neg (by decide)] at g5
    obtain ⟨s1, s2⟩ := g6 rfl
    refine ⟨g5, s1, ?_⟩
    split at s2
    · next hs => rw [if_pos hs]; exact s2
    · next hs =>
      rw [if_neg hs]
      obtain ⟨c1, -⟩ := iv_cla s2.1
      exact ⟨_, _, by rw [s2.2]; exact c1⟩
  case invokestatic x =>
    by_cases h345 : a = 9003 ∨ a = 9004 ∨ a = 9005
    · exact Or.inl h345
    · obtain ⟨ps, hm⟩ := iv_ML_at h
      have h0 : a ≠ 9000 := by rintro rfl; simp [iv_mlb] at hm
      have h3 : a ≠ 9003 := fun z => h345 (Or.inl z)
      have h4 : a ≠ 9004 := fun z => h345 (Or.inr (Or.inl z))
      have h5 : a ≠ 9005 := fun z => h345 (Or.inr (Or.inr z))
      exact Or.inr ⟨b, iv_cal_of hm h0 h3 h4 h5 rfl (by simp) (by omega)⟩
  case invokespecial x =>
    by_cases h0 : a = 9000
    · exact Or.inl h0
    · dsimp only at h ⊢
      rw [Bool.and_eq_true, Bool.or_eq_true] at h
      have hb1 := of_decide_eq_true h.2
      have key : ∀ {ps ne : Nat}, (ne = 0 ∨ ne = 1) → iv_mlb (ps, oc, x, a, b - 1, ne, 1) = true → ∃ k, iv_cal PG (iv_cn oc) x a b k false ∧ ∀ y cc n rt oc', PG.2 a = some (y, cc, n, rt, oc') → y.name = "<init>" ∧ rt = none ∧ (Cond.methodLink (iv_cn oc) x y ∈ lw_g ∨ ∃ host, Cond.methodLinkNest (iv_cn oc) x y host ∈ iv_nest) := by
        intro ps ne hne hm
        have h3 : a ≠ 9003 := by rintro rfl; simp [iv_mlb] at hm
        have h4 : a ≠ 9004 := by rintro rfl; simp [iv_mlb] at hm
        have h5 : a ≠ 9005 := by rintro rfl; simp [iv_mlb] at hm
        refine ⟨b - 1, iv_cal_of hm h0 h3 h4 h5 rfl (by simp; omega) (by omega), ?_⟩
        intro y cc n rt oc' hP
        obtain ⟨g1, -, -, -, -, g5, -, g7⟩ := iv_mlb_at hm h0 h3 h4 h5
        dsimp only at g1 g5 g7
        have e := g1.symm.trans hP
        cases hq : iv_mi a
        rw [hq] at e g5 g7
        cases e
        obtain ⟨s1, s2⟩ := g7 rfl
        refine ⟨s1, s2, ?_⟩
        rcases hne with rfl | rfl
        · rw [if_neg (by decide)] at g5; exact Or.inl g5
        · rw [if_pos rfl] at g5; exact Or.inr ⟨_, g5⟩
      rcases h.1 with h | h
      · obtain ⟨ps, hm⟩ := iv_ML_at h; exact Or.inr (key (Or.inl rfl) hm)
      · obtain ⟨ps, hm⟩ := iv_ML_at h; exact Or.inr (key (Or.inr rfl) hm)
theorem iv_chk_rok {m : iv_I} {r : iv_R} (hcn : m.1.cls = iv_cn m.2.2.2.2) (h : iv_chk m r = true) : iv_rok PG iv_df iv_tx m.1.cls m.1.name m.2.1 r.1 r.2 := by
  unfold iv_chk at h
  simp only [Bool.and_eq_true, Bool.or_eq_true] at h
  obtain ⟨⟨⟨⟨⟨h1, h2⟩, h3⟩, h4⟩, h5⟩, h6⟩ := h
  have h1 := of_decide_eq_true h1
  have h2 := of_decide_eq_true h2
  rw [hcn]
  refine ⟨r.2.2.1 - r.1, h1, by omega, fun hk => ?_, iv_ck_kst h6, iv_ck_hok h6, iv_cj_ok h4, iv_cs_ok h5, iv_ck_cok h6⟩
  rcases h3 with h3 | h3
  · exact absurd (of_decide_eq_true h3) hk
  · exact of_decide_eq_true h3
theorem iv_lk_in {pc : Nat} {f : iv_F} : ∀ {t : List iv_R}, iv_lk pc t = some f → (pc, f) ∈ t := by
  intro t
  induction t with
  | nil => intro h; cases h
  | cons r t ih =>
    intro h
    unfold iv_lk at h
    split at h
    · next e => cases h; subst e; exact List.mem_cons_self
    · exact List.mem_cons_of_mem _ (ih h)
theorem iv_PG_ok : iv_Pok PG iv_df iv_tx := by
  intro a y cc n rt oc hP h1 h2
  unfold PG at hP
  dsimp only at hP
  rw [if_neg h1, if_neg h2] at hP
  obtain ⟨q, hq, he⟩ := Option.map_eq_some_iff.mp hP
  have hm := List.mem_of_getElem? hq
  have hok := iv_Z_ok q hm
  have hcn := List.all_eq_true.mp iv_Z_cn q hm
  simp only [Bool.and_eq_true, decide_eq_true_eq] at hcn
  obtain ⟨m, t⟩ := q
  dsimp only at he
  subst he
  refine ⟨hcn.2, fun pc f hf => ?_⟩
  unfold PG at hf
  dsimp only at hf
  rw [hq, Option.bind_some] at hf
  exact iv_chk_rok (r := (pc, f)) hcn.1 (List.all_eq_true.mp hok _ (iv_lk_in hf))
