-- DRAFTS REDRAWN
def dL (B : iv_M) (x : Int) : iv_M := lay B (dC B x) (dT B x)
theorem isEmptyInDraft_ok {N : Nat} {s : iv_M} {x c : Int} (hN : 100 ≤ N) (x0 : 0 ≤ x) (x1 : x < 4) (h0 : 0 ≤ s 114 2) (h12 : s 114 2 ≤ 12) : FX12_isEmptyInDraft N s 113 (24 * x) c = some (if c ≠ -1 ∧ invf (dC s x) c (s 114 2).toNat = -1 then 1 else 0) := by
  have lp := loop_fn (L := FX12_isEmptyInDraft_l14 N s 113 (24 * x) c (fun (x3509_3 : Int) => (if x3509_3 = 0 ∨ x3509_3 = 1 then some x3509_3 else none))) (k := (fun (x3509_3 : Int) => (if x3509_3 = 0 ∨ x3509_3 = 1 then some x3509_3 else none))) (hi := s 114 2) (N := N) (fun i => if c ≠ -1 ∧ invf (dC s x) c i = -1 then (1 : Int) else 0) h0 (fun n => by
      rw [FX12_isEmptyInDraft_l14]
      simp only [Nat.reduceAdd]
      rw [rd_ok (by omega) (by omega), Option.bind_some, if_pos (by omega)]) (fun n i hi => by
      have hi1 : invf (dC s x) c (i + 1) = if dC s x i = c then (i : Int) else invf (dC s x) c i := rfl
      rw [FX12_isEmptyInDraft_l14]
      unfold FX12_isEmptyInDraft_b48 FX12_isEmptyInDraft_b49
      simp only [Nat.reduceAdd]
      rw [rd_ok (by omega) (by omega), Option.bind_some, if_neg (by omega), w32_id (x := (i : Int) + 1) (by omega) (by omega), w32_id (x := 2 * (i : Int)) (by omega) (by omega), w32_id (by omega) (by omega), rd_ok (by omega) (by omega), Option.bind_some]
      show (if (if c ≠ -1 ∧ invf (dC s x) c i = -1 then (1 : Int) else 0) = 0 then _ else _) = _
      rw [hi1]
      by_cases e1 : c ≠ -1 ∧ invf (dC s x) c i = -1
      · rw [if_pos e1, if_neg (by omega)]
        by_cases e2 : s 123 (24 * x + 2 * (i : Int)) = c
        · rw [if_pos e2, if_neg]
          intro z
          have : dC s x i = c := e2
          rw [if_pos this] at z
          omega
        · have : ¬ dC s x i = c := e2
          rw [if_neg e2, if_neg this, if_pos e1]
      · rw [if_neg e1, if_pos rfl, if_neg]
        intro z
        by_cases e2 : dC s x i = c
        · rw [if_pos e2] at z; omega
        · rw [if_neg e2] at z; exact e1 z) (by omega)
  have e0 : (if c ≠ -1 ∧ invf (dC s x) c 0 = -1 then (1 : Int) else 0) = if c = -1 then 0 else 1 := by
    by_cases e : c = -1
    · rw [if_pos e, if_neg (fun z => z.1 e)]
    · rw [if_neg e, if_pos ⟨e, rfl⟩]
  have lp' : FX12_isEmptyInDraft_l14 N s 113 (24 * x) c (fun (x3509_3 : Int) => (if x3509_3 = 0 ∨ x3509_3 = 1 then some x3509_3 else none)) N (if c ≠ -1 ∧ invf (dC s x) c 0 = -1 then (1 : Int) else 0) 0 = (fun (x3509_3 : Int) => (if x3509_3 = 0 ∨ x3509_3 = 1 then some x3509_3 else none)) (if c ≠ -1 ∧ invf (dC s x) c (s 114 2).toNat = -1 then (1 : Int) else 0) := lp
  rw [e0] at lp'
  unfold FX12_isEmptyInDraft FX12_isEmptyInDraft_b10
  have fin : (fun (x3509_3 : Int) => (if x3509_3 = 0 ∨ x3509_3 = 1 then some x3509_3 else none)) (if c ≠ -1 ∧ invf (dC s x) c (s 114 2).toNat = -1 then (1 : Int) else 0) = some (if c ≠ -1 ∧ invf (dC s x) c (s 114 2).toNat = -1 then (1 : Int) else 0) := by
    by_cases q : c ≠ -1 ∧ invf (dC s x) c (s 114 2).toNat = -1
    · rw [if_pos q]; rfl
    · rw [if_neg q]; rfl
  rw [← fin, ← lp']
  by_cases e : c = -1
  · rw [if_pos e, if_pos e]
  · rw [if_neg e, if_neg e]
def redM (s : iv_M) (x k y z : Int) : iv_M := if k = 1 then (if cnI (dL s x) 1 y z = 0 then s else mu s 123 (24 * x + 2 * y) (nb s (dC s x y) z)) else if k = 2 then mu (mu s 123 (24 * x + 2 * y) (dC s x z)) 123 (24 * x + 2 * z) (dC s x y) else mu s 123 (24 * x + 2 * y + 1) ((dT s x y + 1) % 4)
theorem dL_4 {B : iv_M} {x : Int} : dL B x 114 = B 114 := lay_o (by omega) (by omega) (by omega)
theorem dL_nb {B : iv_M} {x : Int} : nb (dL B x) = nb B := by funext c d; exact nb_ext (by rw [dL_4]) (by rw [dL_4]) c d
theorem redraw_r {N : Nat} {s : iv_M} {x k y z : Int} (hN : 100 ≤ N) (hW : Wf s) (hd : hdr s x) (hv : FV s (dC s x) (dT s x)) (W : isW s k y z) : FX12_redraw N s 113 x k y z = some (if k = 1 ∧ cnI (dL s x) 1 y z = 0 then 0 else 1, redM s x k y z) := by
  obtain ⟨d0, d1, d2⟩ := id hd
  have h12 := hW.1.2.2.2.2.2.1
  have hr0 := hW.1.2.2.2.2.1
  have W' := W
  unfold isW at W'
  obtain ⟨v1, v2, v3, v4, v5, v6⟩ := hv.1 y W'.1 W'.2.1
  unfold FX12_redraw FX12_redraw_b88 FX12_redraw_b164 redM
  simp only [Nat.reduceAdd]
  rcases FX12_isDraft_ok (N := N) (s := s) (k := x) with ⟨_, f⟩ | ⟨d, _⟩
  rotate_left
  · exact absurd hd d
  rcases FX12_isWalk_ok (N := N) (k := k) (r := y) (o := z) hW.1 with ⟨_, hi⟩ | ⟨hi, _⟩
  rotate_left
  · exact absurd W hi
  have hl : ((sh 123).2 : Int) = 96 := by decide
  rw [f, Option.bind_some, if_neg (by omega), hi, Option.bind_some, if_neg (by omega), w32_id (x := 24 * x) (by omega) (by omega), w32_id (x := 2 * y) (by omega) (by omega), w32_id (x := 24 * x + 2 * y) (by omega) (by omega), hl]
  by_cases e1 : k = 1
  · have hby : FX12_by N s 113 (dC s x y) z = some (nb s (dC s x y) z) := FX12_by_ok hW.1 v1 v2 (by omega) (by omega)
    rw [if_pos e1, if_pos e1, rd_ok (by omega) (by omega), Option.bind_some]
    show ((FX12_by N s 113 (dC s x y) z).bind _) = _
    rw [hby, Option.bind_some, isEmptyInDraft_ok hN d0 d1 hr0 h12, Option.bind_some]
    have hcn : cnI (dL s x) 1 y z = if nb s (dC s x y) z ≠ -1 ∧ invf (dC s x) (nb s (dC s x y) z) (s 114 2).toNat = -1 then 1 else 0 := by
      unfold cnI
      rw [if_pos rfl, dL_nb]
      have h6 : dL s x 116 y = dC s x y := lay_6 W'.1 W'.2.1
      rw [h6]
      by_cases e : nb s (dC s x y) z = -1
      · rw [if_neg (fun q => q.1 e), if_neg (fun q => q.1 e)]
      · obtain ⟨m1, m2, _⟩ := nb_in hW.1 e
        have h1 : dL s x 121 (nb s (dC s x y) z) = invf (dC s x) (nb s (dC s x y) z) (s 114 2).toNat := lay_1 m1 m2
        rw [h1]
    rw [hcn]
    by_cases e : nb s (dC s x y) z ≠ -1 ∧ invf (dC s x) (nb s (dC s x y) z) (s 114 2).toNat = -1
    · rw [if_pos e, if_neg (by omega), wr_ok (by omega) (by omega), Option.bind_some, if_pos (by omega), if_neg (by omega), if_neg (by omega)]
    · rw [if_neg e, if_pos rfl, Option.bind_some, wr_ok (by omega) (by omega), Option.bind_some, if_pos (by omega), if_pos ⟨e1, rfl⟩, if_pos rfl, mu_same]
  · rw [if_neg e1, if_neg e1, if_neg (show ¬ (k = 1 ∧ cnI (dL s x) 1 y z = 0) from fun q => e1 q.1)]
    by_cases e2 : k = 2
    · rw [if_pos e2, if_pos e2, rd_ok (by omega) (by omega), Option.bind_some, w32_id (x := 2 * z) (by omega) (by omega), w32_id (x := 24 * x + 2 * z) (by omega) (by omega), rd_ok (by omega) (by omega), Option.bind_some, wr_ok (by omega) (by omega), Option.bind_some, wr_ok (by omega) (by omega), Option.bind_some]
      rfl
    · rw [if_neg e2, if_neg e2, w32_id (x := 24 * x + 2 * y + 1) (by omega) (by omega), rd_ok (by omega) (by omega), Option.bind_some]
      show ((wr s 123 96 (24 * x + 2 * y + 1) (bAn (w32 (dT s x y + 1)) 3)).bind _) = _
      rw [bAn_3, w32_id (by omega) (by omega), wr_ok (by omega) (by omega), Option.bind_some]
theorem redM_o {s : iv_M} {x k y z : Int} {a : Nat} (h : a ≠ 123) : redM s x k y z a = s a := by
  unfold redM
  split
  · split
    · rfl
    · exact mu_rw h
  · split
    · rw [mu_rw h, mu_rw h]
    · exact mu_rw h
theorem redM_row {s : iv_M} {x k y z : Int} (hW : Wf s) (W : isW s k y z) (hok : ¬ (k = 1 ∧ cnI (dL s x) 1 y z = 0)) : (∀ r, 0 ≤ r → r < 12 → r < s 114 2 → redM s x k y z 123 (24 * x + 2 * r) = wlk (dL s x) k (lsT k y z) (gtT k y z) 116 r ∧ redM s x k y z 123 (24 * x + 2 * r + 1) = wlk (dL s x) k (lsT k y z) (gtT k y z) 117 r) ∧ ∀ i, ¬ (24 * x ≤ i ∧ i < 24 * x + 24) → redM s x k y z 123 i = s 123 i := by
  have h12 := hW.1.2.2.2.2.2.1
  have W' := W
  unfold isW at W'
  have l6 : ∀ r, 0 ≤ r → r < s 114 2 → dL s x 116 r = s 123 (24 * x + 2 * r) := fun r r0 r1 => lay_6 r0 r1
  have l7 : ∀ r, 0 ≤ r → r < s 114 2 → dL s x 117 r = s 123 (24 * x + 2 * r + 1) := fun r r0 r1 => lay_7 r0 r1
  unfold redM lsT gtT wlk
  by_cases e1 : k = 1
  · rw [if_pos e1, if_pos e1, if_neg (fun q => hok ⟨e1, q⟩), if_neg (by omega), if_neg (by omega)]
    refine ⟨fun r r0 r1 r2 => ?_, fun i hi => mu_ne (by omega)⟩
    rw [wS_6, wS_o (by omega) (by omega), l7 r r0 r2, mu_ne (a := 123) (i := 24 * x + 2 * y) (j := 24 * x + 2 * r + 1) (by omega)]
    refine ⟨?_, rfl⟩
    by_cases e : r = y
    · rw [if_pos e, e, mu_eq, dL_nb, l6 y W'.1 W'.2.1]
      rfl
    · rw [if_neg e, mu_ne (by omega), l6 r r0 r2]
  · rw [if_neg e1, if_neg e1]
    by_cases e2 : k = 2
    · rw [if_pos e2, if_pos e2]
      refine ⟨fun r r0 r1 r2 => ?_, fun i hi => by rw [mu_ne (by omega), mu_ne (by omega)]⟩
      rw [wC_o (a := 117) (by omega) (by omega), l7 r r0 r2, mu_ne (a := 123) (i := 24 * x + 2 * z) (j := 24 * x + 2 * r + 1) (by omega), mu_ne (a := 123) (i := 24 * x + 2 * y) (j := 24 * x + 2 * r + 1) (by omega)]
      refine ⟨?_, rfl⟩
      rw [wC_6]
      have ly := l6 y W'.1 W'.2.1
      have lz := l6 z (by omega) (by omega)
      by_cases e3 : z < y
      · rw [if_pos (show k = 2 ∧ z < y from ⟨e2, e3⟩), if_pos (show k = 2 ∧ z < y from ⟨e2, e3⟩)]
        by_cases e4 : r = y
        · rw [if_pos e4, e4, lz, mu_ne (by omega), mu_eq]; rfl
        · rw [if_neg e4]
          by_cases e5 : r = z
          · rw [if_pos e5, e5, ly, mu_eq]; rfl
          · rw [if_neg e5, mu_ne (by omega), mu_ne (by omega), l6 r r0 r2]
      · rw [if_neg (show ¬ (k = 2 ∧ z < y) by omega), if_neg (show ¬ (k = 2 ∧ z < y) by omega)]
        by_cases e4 : r = z
        · rw [if_pos e4, e4, ly, mu_eq]; rfl
        · rw [if_neg e4]
          by_cases e5 : r = y
          · rw [if_pos e5, e5, lz, mu_ne (by omega), mu_eq]; rfl
          · rw [if_neg e5, mu_ne (by omega), mu_ne (by omega), l6 r r0 r2]
    · rw [if_neg e2, if_neg e2, if_neg (by omega)]
      refine ⟨fun r r0 r1 r2 => ?_, fun i hi => mu_ne (by omega)⟩
      rw [wT_o (by omega), l6 r r0 r2, wT_7, mu_ne (a := 123) (i := 24 * x + 2 * y + 1) (j := 24 * x + 2 * r) (by omega)]
      refine ⟨rfl, ?_⟩
      by_cases e : r = y
      · rw [if_pos e, e, mu_eq, l7 y W'.1 W'.2.1]; rfl
      · rw [if_neg e, mu_ne (by omega), l7 r r0 r2]
theorem ct_redraw {t : Int} {N : Nat} {s : iv_M} {x k y z : Int} (hN : 1000 ≤ N) (h : Inv t s) (t0 : 0 ≤ t) (t1 : t ≤ 1000) : ∃ a s1 s2, FX11_redraw N s 0 x k y z = some (a, s1) ∧ FX12_redraw N s1 113 x k y z = some (a, s2) ∧ Inv (t + 1) s2 := by
  have hI := h
  obtain ⟨h1, h2, h3, h4, h5, h6, h7, h8, h9, h10⟩ := h
  obtain ⟨n1, n2, n3⟩ := now_ne h1
  have hn := (now_HQ h1).2.1
  have hq : (s 0 4).toNat = now s := rfl
  have h15 := h9.1
  obtain ⟨hW, ⟨_, _, _, _, _, _, _, _, h11, _⟩, ⟨_, _, _, _, e5, _⟩⟩ := id h3
  obtain ⟨hr1, ⟨hF, hP⟩, _, _, hH5, _⟩ := id h2
  have h12 := hW.1.2.2.2.2.2.1
  have h8' := hr1.2.2.2.2.2.2.2
  have hwo := FX2_walkOf_ok (N := N) (q := now s) (s := s) (B := s) (k := k) (r := y) (o := z) hF h12
  by_cases C : hdr s x ∧ isW s k y z
  rotate_left
  · refine ⟨0, s, s, ?_, ?_, HR1_mono (by omega) hI⟩
    · unfold FX11_redraw FX11_redraw_b47
      rw [hq]
      rcases FX2_hasDraft_ok (N := N) (k := x) h8' with ⟨c, e⟩ | ⟨c, e⟩
      · rcases hwo with ⟨W, _⟩ | ⟨_, hw⟩
        · exact absurd ⟨c, W⟩ C
        · rw [hw, Option.bind_some, e, Option.bind_some, if_neg (by omega), if_pos rfl]
      · rcases hwo with ⟨_, hw⟩ | ⟨_, hw⟩ <;> rw [hw, Option.bind_some, e, Option.bind_some, if_pos rfl]
    · unfold FX12_redraw FX12_redraw_b19
      rcases FX12_isDraft_ok (N := N) (s := s) (k := x) with ⟨c, f⟩ | ⟨_, f⟩
      · rcases FX12_isWalk_ok (N := N) (k := k) (r := y) (o := z) hW.1 with ⟨hi, _⟩ | ⟨_, hi⟩
        · exact absurd ⟨c, hi⟩ C
        · rw [f, Option.bind_some, if_neg (by omega), hi, Option.bind_some, if_pos rfl]
      · rw [f, Option.bind_some, if_pos rfl]
  obtain ⟨hd, W⟩ := C
  obtain ⟨d0, d1, d2⟩ := id hd
  have hv := e5 x d0 d1 d2
  obtain ⟨p1, p2⟩ := hH5 x d0 d1 d2
  rcases hwo with ⟨_, hw⟩ | ⟨hw, _⟩
  rotate_left
  · exact absurd W hw
  obtain ⟨iw, _⟩ := isW_ls W
  have hWD : Wf (dL s x) := Wf_lay hW.1 hv
  have hT82 : TF 82 := by unfold TF; decide
  obtain ⟨s1, c1, c2, c3, c4⟩ := FX1_copyFrom_ok (N := N) (q := 82) (p := now s + 1) (s := s) (B := s) (by omega) hT82 hW (by omega) hF hP
  have o1 : ∀ a, (a < 82 ∨ 88 < a) → s1 a = s a := fun a ha => by funext i; exact c4 a i ha
  have D6 := fun i (i0 : 0 ≤ i) (i1 : i < ((s 114 2).toNat : Int)) => (lay_6 (f := dC s x) (g := dT s x) i0 (show i < s 114 2 by omega) : dL s x 116 i = dC s x i)
  have D7 := fun i (i0 : 0 ≤ i) (i1 : i < ((s 114 2).toNat : Int)) => (lay_7 (f := dC s x) (g := dT s x) i0 (show i < s 114 2 by omega) : dL s x 117 i = dT s x i)
  have D5 : dL s x 115 = s 115 := lay_o (by omega) (by omega) (by omega)
  obtain ⟨s2, a1, a2, a3, a4⟩ := FX1_arrange_ok (N := N) (q := 82) (s := s1) (B := dL s x) (y := s (now s + 14) x) (x := s (now s + 15) x) (by omega) hT82 hWD (by rw [dL_4]; exact c2.1) (by rw [dL_4]; exact c2.2.1) (by rw [dL_4]; exact c2.2.2.1) (by rw [dL_nb]; exact c2.2.2.2.2.2.1) (by rw [dL_4, D5]; exact c2.2.2.2.2.2.2.1) (by rw [p1, dL_4]; exact (pkd_congr _ D6).symm) (by rw [p2, dL_4]; exact (pkd_congr _ D7).symm)
  have o2 : ∀ a, (a < 82 ∨ 88 < a) → s2 a = s a := fun a ha => by rw [← o1 a ha]; funext i; exact a4 a i (by omega)
  have iwD : isW (dL s x) k (lsT k y z) (gtT k y z) := isW_2 (by rw [dL_4]) iw
  have hne : ¬ 256 * k + 16 * lsT k y z + gtT k y z = -1 := by have := iw; unfold isW at this; omega
  have W' := iw
  unfold isW at W'
  obtain ⟨w1, w2, w3⟩ := wcode (k := k) (r := lsT k y z) (o := gtT k y z) (by omega) (by omega) (by omega) (by omega) (by omega) (by omega)
  have hgo := FX1_canGo_ok (N := N) (q := 82) (s := s2) (B := dL s x) (by omega) hWD a2 iwD
  rcases FX2_hasDraft_ok (N := N) (k := x) h8' with ⟨_, ehd⟩ | ⟨c, _⟩
  rotate_left
  · exact absurd hd c
  have hred : FX10_redraws N s 81 (now s) x (256 * k + 16 * lsT k y z + gtT k y z) = (if k = 1 then (if cnI (dL s x) k (lsT k y z) (gtT k y z) = 0 then some (0, s2) else FX10_redraws_b51 N s2 81 (256 * k + 16 * lsT k y z + gtT k y z)) else FX10_redraws_b51 N s2 81 (256 * k + 16 * lsT k y z + gtT k y z)) := by
    unfold FX10_redraws
    simp only [Nat.reduceAdd]
    rw [c1, Option.bind_some, rd_ok d0 d1, Option.bind_some, rd_ok d0 d1, Option.bind_some, o1 _ (by omega), o1 _ (by omega), a1, Option.bind_some, w2, hgo]
    by_cases e : k = 1
    · rw [if_pos e, if_pos e, Option.bind_some]
    · rw [if_neg e, if_neg e]
  have hcl : FX11_redraw N s 0 x k y z = ((FX10_redraws N s 81 (now s) x (256 * k + 16 * lsT k y z + gtT k y z)).bind fun r_2002 => (fun (v_2002 : Int) (s_2003 : iv_M) => (if v_2002 = 0 then (FX11_redraw_b47 N s_2003) else ((FX2_keepDraft N s_2003 ((s_2003 0 4).toNat) x 82).bind fun s_2006 => ((pt s_2006 0 15 (w32 ((s_2006 0 15) + 1))).bind fun s_2008 => (some (1, s_2008)))))) r_2002.1 r_2002.2) := by
    unfold FX11_redraw
    simp only [Nat.reduceAdd, Nat.zero_add]
    rw [hq, hw, Option.bind_some, ehd, Option.bind_some, if_neg (by omega), if_neg hne]
  have lsk : k = 1 → lsT k y z = y ∧ gtT k y z = z := fun e => by
    unfold lsT gtT
    rw [if_neg (by omega), if_neg (by omega)]; exact ⟨rfl, rfl⟩
  by_cases F : k = 1 ∧ cnI (dL s x) 1 y z = 0
  · obtain ⟨f1, f2⟩ := F
    obtain ⟨l1, l2⟩ := lsk f1
    have hb : Eb s s2 := fun a z0 z1 => o2 a (by omega)
    have dce : ∀ a, dC s2 a = dC s a := fun a => by funext r; unfold dC; rw [o2 123 (by omega)]
    have dte : ∀ a, dT s2 a = dT s a := fun a => by funext r; unfold dT; rw [o2 123 (by omega)]
    have hdl : Eb (dL s x) (dL s2 x) := by unfold dL; rw [dce, dte]; exact eb_lay hb
    have hr := redraw_r (N := N) (s := s2) (x := x) (k := k) (y := y) (z := z) (by omega) (eb_Wf hb hW) ((hdr_eb hb).mpr hd) (by rw [dce, dte, eb_FV hb]; exact hv) (eb_isW hb W)
    have hc2 : cnI (dL s2 x) 1 y z = 0 := by rw [eb_cnI hdl]; exact f2
    rw [if_pos ⟨f1, hc2⟩] at hr
    have hm : redM s2 x k y z = s2 := by unfold redM; rw [if_pos f1, if_pos hc2]
    rw [hm] at hr
    refine ⟨0, s2, s2, ?_, hr, Inv_q hI (by omega) (o2 0 (by omega)) (fun a ha => o2 a (by omega)) (fun i hi => by rw [o2 113 (by omega)])⟩
    rw [hcl, hred, if_pos f1, f1] 
    rw [f1] at l1 l2
    rw [l1, l2, if_pos f2, Option.bind_some]
    exact if_pos rfl
  · have sl : slO (dL s x) k (lsT k y z) (gtT k y z) := by
      intro e
      obtain ⟨l1, l2⟩ := lsk e
      rw [l1, l2]
      have hc : cnI (dL s x) 1 y z = 1 := by
        rcases cn_01 (dL s x) 1 y z with q | q
        · exact absurd ⟨e, q⟩ F
        · exact q
      exact cn_sl hc rfl
    obtain ⟨s3, g1, g2, g3, g4⟩ := go_ok (N := N) (q := 82) (s := s2) (by omega) hT82 hWD a2 a3 iwD sl
    have o3 : ∀ a, (a < 82 ∨ 88 < a) → s3 a = s a := fun a ha => by rw [← o2 a ha]; funext i; exact g4 a i (by omega)
    obtain ⟨R, hRd⟩ : ∃ R, R = redM s x k y z 123 := ⟨_, rfl⟩
    obtain ⟨rr1, rr2⟩ := redM_row (x := x) hW W F
    have hR : ∀ r, 0 ≤ r → r < 12 → r < s 114 2 → R (24 * x + 2 * r) = wlk (dL s x) k (lsT k y z) (gtT k y z) 116 r ∧ R (24 * x + 2 * r + 1) = wlk (dL s x) k (lsT k y z) (gtT k y z) 117 r := by rw [hRd]; exact rr1
    have hR2 : ∀ i, ¬ (24 * x ≤ i ∧ i < 24 * x + 24) → R i = s 123 i := by rw [hRd]; exact rr2
    have hH3 : HR s3 (now s) s := HR_ext (fun a z0 z1 => o3 a (by omega)) h2
    have wl4 : wlk (dL s x) k (lsT k y z) (gtT k y z) 114 = s 114 := by rw [wlk_row (by omega) (by omega) (by omega), dL_4]
    obtain ⟨s4, k1, k2, k3⟩ := keepDraft_ok (N := N) (q := now s) (p := 82) (s := s3) (B := s) (D := wlk (dL s x) k (lsT k y z) (gtT k y z)) (x := x) (R := R) n2 (by omega) d0 d1 hH3 h11 g3 (by rw [wl4]) h12 hR hR2
    obtain ⟨s5, hs5⟩ : ∃ s5, s5 = mu s4 0 15 (s 0 15 + 1) := ⟨_, rfl⟩
    have o4 : ∀ a, a ≠ now s → a ≠ now s + 14 → a ≠ now s + 15 → (a < 82 ∨ 88 < a) → s4 a = s a := fun a z0 z1 z2 z3 => by rw [k3 a z0 z1 z2, o3 a z3]
    have o5 : ∀ a, a ≠ 0 → a ≠ now s → a ≠ now s + 14 → a ≠ now s + 15 → (a < 82 ∨ 88 < a) → s5 a = s a := fun a y0 z0 z1 z2 z3 => by rw [hs5, mu_rw y0, o4 a z0 z1 z2 z3]
    have x0 : s4 0 = s 0 := o4 0 (by omega) (by omega) (by omega) (by omega)
    have hb : Eb s s5 := fun a z0 z1 => o5 a (by omega) (by omega) (by omega) (by omega) (by omega)
    have dce : ∀ a, dC s5 a = dC s a := fun a => by funext r; unfold dC; rw [hb 123 (by omega) (by omega)]
    have dte : ∀ a, dT s5 a = dT s a := fun a => by funext r; unfold dT; rw [hb 123 (by omega) (by omega)]
    have hdl : Eb (dL s x) (dL s5 x) := by unfold dL; rw [dce, dte]; exact eb_lay hb
    have hr := redraw_r (N := N) (s := s5) (x := x) (k := k) (y := y) (z := z) (by omega) (eb_Wf hb hW) ((hdr_eb hb).mpr hd) (by rw [dce, dte, eb_FV hb]; exact hv) (eb_isW hb W)
    have hcn : cnI (dL s5 x) = cnI (dL s x) := eb_cnI hdl
    rw [hcn, if_neg F] at hr
    have hrow : redM s5 x k y z 123 = R := by
      rw [hRd]
      unfold redM
      rw [hcn, dce, dte, eb_nb hb]
      funext i
      unfold mu
      split
      · split
        · first | rw [hb 123 (by omega) (by omega)] | (dsimp only; rw [hb 123 (by omega) (by omega)])
        · first | rw [hb 123 (by omega) (by omega)] | (dsimp only; rw [hb 123 (by omega) (by omega)])
      · split
        · first | rw [hb 123 (by omega) (by omega)] | (dsimp only; rw [hb 123 (by omega) (by omega)])
        · first | rw [hb 123 (by omega) (by omega)] | (dsimp only; rw [hb 123 (by omega) (by omega)])
    have hor := (or16 (x := s 114 11) (r := x) (i := 0) h11.1 h11.2 d0 d1 (by omega) (by omega)).2.2 d2
    have hE : Eb (drB s x R) (redM s5 x k y z) := fun a z0 z1 => by
      funext i
      unfold drB
      by_cases e : a = 123
      · subst e; rw [if_pos rfl, hrow]
      · rw [if_neg e, redM_o e, hb a z0 z1]
        by_cases e2 : a = 114 ∧ i = 11
        · rw [if_pos e2, e2.1, e2.2, hor]
        · rw [if_neg e2]
    have hDV : FV s (wlk (dL s x) k (lsT k y z) (gtT k y z) 116) (wlk (dL s x) k (lsT k y z) (gtT k y z) 117) := FV_congr (by rw [wl4]) (by rw [wl4]) (by rw [wl4]) (fun _ _ _ => ⟨rfl, rfl⟩) (Wf_FV (Wf_wlk hWD iwD sl))
    refine ⟨1, s5, redM s5 x k y z, ?_, hr, ?_⟩
    · have hgo2 : FX10_redraws_b51 N s2 81 (256 * k + 16 * lsT k y z + gtT k y z) = some (1, s3) := by
        unfold FX10_redraws_b51 FX1_go
        simp only [Nat.reduceAdd]
        rw [g1, Option.bind_some, Option.bind_some]
      have hr3 : FX10_redraws N s 81 (now s) x (256 * k + 16 * lsT k y z + gtT k y z) = some (1, s3) := by
        rw [hred, hgo2]
        by_cases e : k = 1
        · obtain ⟨l1, l2⟩ := lsk e
          rw [if_pos e, l1, l2, if_neg (fun q => F ⟨e, by rw [e] at q; exact q⟩)]
        · rw [if_neg e]
      rw [hcl, hr3, Option.bind_some]
      show (if (1 : Int) = 0 then _ else _) = _
      rw [if_neg (by omega)]
      dsimp only
      rw [o3 0 (by omega), hq, k1, Option.bind_some, pt_ok, Option.bind_some, x0, w32_id (by omega) (by omega), hs5]
    · have hH5' : HR s5 (now s) (drB s x R) := HR_ext (fun a z0 z1 => by rw [hs5, mu_rw (by omega)]) k2
      have far : ∀ a, a ≠ 123 → redM s5 x k y z a = s5 a := fun a ha => redM_o ha
      refine Inv_bk (s1 := s5) hI (by omega) (fun i hi => by rw [hs5, mu_ne (by omega), x0]) (by rw [hs5, mu_eq]; omega) (fun a ha => o5 a (by omega) (by omega) (by omega) (by omega) (by omega)) hH5' (WHm_mono (by omega) (WHm_drB (WH_m.mp h3) d0 d1 hDV hR hR2)) (by unfold drB; rw [if_neg (by omega), if_neg (by omega)]; exact h5.2.2.2.1) (OZ_drB h10 d0 d1 hR2) (fun a ha => far a (by omega)) (fun i hi => by rw [far 113 (by omega)]) hE (Me_bump ⟨h7, h8⟩ (by rw [far 64 (by omega), o5 64 (by omega) (by omega) (by omega) (by omega) (by omega)]) (by rw [far 81 (by omega), o5 81 (by omega) (by omega) (by omega) (by omega) (by omega)]) (by rw [far 0 (by omega), hs5, mu_eq]; omega))
