-- WALKS BY HAND, RESTS, NIGHTS UNDONE
theorem HR_scl {s s1 B : iv_M} {q : Nat} (h : HR s q B) (ro : ∀ a, q ≤ a → a ≤ q + 21 → (a < q + 1 ∨ q + 6 < a) → s1 a = s a) (hF : FRc s1 (q + 1) B) (hP : FP s1 (q + 1) B) : HR s1 q B := by
  obtain ⟨h1, _, h3, h4, h5, h6⟩ := h
  refine ⟨HR1_ext (ro _ (by omega) (by omega) (by omega)) (ro _ (by omega) (by omega) (by omega)) h1, ⟨hF, hP⟩, ?_, ?_, ?_, ?_⟩
  · unfold HR3 at h3 ⊢; rw [ro (q + 8) (by omega) (by omega) (by omega)]; exact h3
  · unfold HR4 at h4 ⊢; rw [ro (q + 10) (by omega) (by omega) (by omega), ro (q + 11) (by omega) (by omega) (by omega), ro (q + 12) (by omega) (by omega) (by omega), ro (q + 13) (by omega) (by omega) (by omega)]; exact h4
  · unfold HR5 at h5 ⊢; rw [ro (q + 14) (by omega) (by omega) (by omega), ro (q + 15) (by omega) (by omega) (by omega)]; exact h5
  · unfold HR6 at h6 ⊢; rw [ro (q + 16) (by omega) (by omega) (by omega), ro (q + 17) (by omega) (by omega) (by omega), ro (q + 18) (by omega) (by omega) (by omega), ro (q + 19) (by omega) (by omega) (by omega), ro (q + 20) (by omega) (by omega) (by omega), ro (q + 21) (by omega) (by omega) (by omega)]; exact h6
theorem kp_far {B : iv_M} {a : Nat} (h : a ≠ 114) (h2 : a ≠ 122) (i : Int) : kpB B a i = B a i := by rw [kpB_o h h2]
theorem lwf_nn {ru : Option (List (List (Int × Int)))} {B : iv_M} {k r o : Int} : 0 ≤ lwf ru B k r o := by
  unfold lwf
  repeat' split
  all_goals omega
theorem ct_rest {t : Int} {N : Nat} {s : iv_M} (hN : 1000 ≤ N) (h : Inv t s) (t0 : 0 ≤ t) (t1 : t ≤ 1000) : ∃ a s1 s2, FX11_rest N s 0 = some (a, s1) ∧ FX12_rest N s1 113 = some (a, s2) ∧ Inv (t + 1) s2 := by
  have hI := h
  obtain ⟨h1, h2, h3, h4, h5, h6, h7, h8, h9, h10⟩ := h
  obtain ⟨n1, n2, n3⟩ := now_ne h1
  have hn := (now_HQ h1).2.1
  have hq : (s 0 4).toNat = now s := rfl
  have hto := HR1_told h2.1
  have h15 := h9.1
  obtain ⟨hW, ⟨a1, a2, a3, a4, a5, _⟩, _⟩ := id h3
  by_cases e0 : s (now s) 0 = 0
  · refine ⟨-1, s, s, ?_, ?_, HR1_mono (by omega) hI⟩
    · unfold FX11_rest; rw [hq, if_pos e0]
    · unfold FX12_rest; rw [told_ref, Option.bind_some, if_neg (hto.mp e0), if_pos rfl]
  · have hp : 0 < s 114 0 := by
      by_cases z : 0 < s 114 0
      · exact z
      · exact absurd (hto.mpr z) e0
    obtain ⟨s1, k1, k2, k3, k4, k5⟩ := night_ok (N := N) (B' := kpB s) (w := -1) hN hq hn h2 hW a5 (by omega) h15.1 (by omega) (Or.inl ⟨rfl, rfl⟩)
    have hb : Eb s s1 := fun a z0 z1 => k5 a (by omega) (by omega)
    have e114 := hb 114 (by omega) (by omega)
    have hb2 : Eb (kpB s) (kpB s1) := eb_kp hb
    refine ⟨s 114 6 + 1, s1, kpB s1, ?_, ?_, ?_⟩
    · unfold FX11_rest
      have : (s1 0 4).toNat = now s := by rw [k4 4 (by omega)]; rfl
      rw [hq, if_neg e0, k1, Option.bind_some, this, k2.1.2.2.2.2.2.1, kpB_6]
    · unfold FX12_rest
      simp only [Nat.reduceAdd]
      rw [told_ref, Option.bind_some, e114, if_pos hp, if_neg (by omega), FX12_keepsNight_ok hN (by rw [e114]; exact a5.1) (by rw [e114]; exact a5.2) (by rw [e114]; omega) (by rw [e114]; omega), Option.bind_some, rd_ok (by omega) (by omega), Option.bind_some, kpB_6, e114]
    · refine Inv_bk hI (by omega) k4 (by omega) (fun a ha => k5 a (by omega) (by omega)) k2 (WHm_mono (by omega) (WHm_kp (WH_m.mp h3))) (by rw [kpB_j (by omega) (by omega)]; exact h5.2.2.2.1) (OZ_kp h10 a5.1 a5.2) (fun a ha => kpB_o (by omega) (by omega)) (fun i hi => by rw [kpB_o (by omega) (by omega)]) hb2 (Me_bump ⟨h7, h8⟩ (by rw [kpB_o (by omega) (by omega), k5 64 (by omega) (by omega)]) (by rw [kpB_o (by omega) (by omega), k5 81 (by omega) (by omega)]) (by rw [kpB_o (by omega) (by omega)]; omega))
theorem ct_walk {t : Int} {N : Nat} {s : iv_M} {x y z : Int} (hN : 1000 ≤ N) (h : Inv t s) (t0 : 0 ≤ t) (t1 : t ≤ 1000) : ∃ a s1 s2, FX11_walk N s 0 x y z = some (a, s1) ∧ FX12_walk N s1 113 x y z = some (a, s2) ∧ Inv (t + 1) s2 := by
  have hI := h
  obtain ⟨h1, h2, h3, h4, h5, h6, h7, h8, h9, h10⟩ := h
  obtain ⟨n1, n2, n3⟩ := now_ne h1
  have hn := (now_HQ h1).2.1
  have hq : (s 0 4).toNat = now s := rfl
  have h15 := h9.1
  obtain ⟨hW, ⟨a1, a2, a3, a4, a5, _, _, _, _, p12, _⟩, _⟩ := id h3
  obtain ⟨hr1, ⟨hF, hP⟩, _⟩ := id h2
  have hr2 := hW.1.2.2.2.2.2.1
  rcases FX2_walkOf_ok (N := N) (q := now s) (s := s) (B := s) (k := x) (r := y) (o := z) hF hr2 with ⟨W, hw⟩ | ⟨W, hw⟩
  rotate_left
  · refine ⟨-1, s, s, ?_, ?_, HR1_mono (by omega) hI⟩
    · unfold FX11_walk; rw [hq, hw, Option.bind_some, if_pos rfl]
    · unfold FX12_walk
      rcases FX12_isWalk_ok (N := N) (k := x) (r := y) (o := z) hW.1 with ⟨hi, _⟩ | ⟨_, hi⟩
      · exact absurd hi W
      · rw [hi, Option.bind_some, if_pos rfl]
  obtain ⟨iw, _⟩ := isW_ls W
  obtain ⟨ru, hR⟩ := Rl_RUO h5 p12
  have hQ := HQ_TF (now_HQ h1).1
  obtain ⟨o3, s0, e1, e2, e3, e4⟩ := open_face (N := N) (by omega) hq hn hr1 hW hF h5.2.2.2.1 h5.2.2.1 hR
  have hF' : FRc s0 (now s + 1) s := FRc_ext (fun a z0 z1 => e4 a (by omega)) hF
  have hP' : FP s0 (now s + 1) s := FP_ext (e4 _ (by omega)) hP
  obtain ⟨s1, f1, f2, f3⟩ := FX3_broken_ok (N := N) hN (Sp_face hn) hQ.1 hQ.2 (by decide) hW ⟨e3, hF', hP'⟩ iw a1.1 a1.2
  have ro1 : ∀ a, (a < now s + 1 ∨ now s + 6 < a) → a ≠ 62 → a ≠ 63 → s1 a = s a := fun a z0 z1 z2 => by rw [f3.1 a (by omega) z1 (by omega), e4 a z1]
  have hH1 : HR s1 (now s) s := HR_scl h2 (fun a z0 z1 z2 => ro1 a z2 (by omega) (by omega)) f2.2.1 f2.2.2
  have hne : ¬ 256 * x + 16 * lsT x y z + gtT x y z = -1 := by have := iw; unfold isW at this; omega
  have ref : ∀ s2 : iv_M, (∀ a, (114 ≤ a ∧ a ≤ 131) ∨ (140 ≤ a ∧ a ≤ 144) ∨ (3 ≤ a ∧ a ≤ 8) → s2 a = s a) → ∃ s3, FX12_lawOf N s2 113 x (lsT x y z) (gtT x y z) = some (lwf ru s x (lsT x y z) (gtT x y z), s3) ∧ Scr s2 s3 ∧ FX12_walk N s2 113 x y z = (if lwf ru s x (lsT x y z) (gtT x y z) ≤ 0 then ((FX12_keepsNight N s3 113).bind fun s_3464 => ((FX12_walks N s_3464 113 x (lsT x y z) (gtT x y z)).bind fun s_3466 => ((rd s_3466 114 14 6).bind fun v_3467 => (some (v_3467, s_3466))))) else (some ((w32 ((-2) - lwf ru s x (lsT x y z) (gtT x y z))), s3))) := by
    intro s2 hs2
    have hb : Eb s s2 := fun a z0 z1 => hs2 a (by omega)
    obtain ⟨r1, r2, r3⟩ := Inv.refL hI hR hs2
    obtain ⟨s3, g1, g2, g3⟩ := FX12_lawOf_ok (N := N) hN r1 (eb_isW hb iw) r2.1 r2.2 r3
    rw [eb_lwf hb] at g1
    refine ⟨s3, g1, g2, ?_⟩
    unfold FX12_walk
    rcases FX12_isWalk_ok (N := N) (k := x) (r := y) (o := z) r1.1 with ⟨_, hi⟩ | ⟨hi, _⟩
    · rw [hi, Option.bind_some, if_neg (by omega), FX12_least_ok, Option.bind_some, FX12_greatest_ok, Option.bind_some, g1, Option.bind_some]
    · exact absurd (eb_isW hb W) hi
  have cls : FX11_walk N s 0 x y z = (if lwf ru s x (lsT x y z) (gtT x y z) = 0 then ((FX11_nightComes N s1 0 (256 * x + 16 * lsT x y z + gtT x y z)).bind fun s_1947 => (some ((s_1947 ((s_1947 0 4).toNat) 6), s_1947))) else (some ((w32 ((-2) - lwf ru s x (lsT x y z) (gtT x y z))), s1))) := by
    unfold FX11_walk
    simp only [Nat.reduceAdd, Nat.zero_add]
    rw [hq, hw, Option.bind_some, if_neg hne, e1, Option.bind_some, e2, Option.bind_some, f1, Option.bind_some]
  by_cases L : lwf ru s x (lsT x y z) (gtT x y z) = 0
  · have sl := cn_sl (lwf_cn L)
    have e0 : s1 0 = s 0 := ro1 0 (by omega) (by omega) (by omega)
    obtain ⟨s2, k1, k2, k3, k4, k5⟩ := night_ok (N := N) (s := s1) (B := s) (B' := wlk (kpB s) x (lsT x y z) (gtT x y z)) (w := 256 * x + 16 * lsT x y z + gtT x y z) hN (by rw [e0]; rfl) hn hH1 hW a5 (by omega) (by rw [e0]; exact h15.1) (by rw [e0]; omega) (Or.inr ⟨_, _, _, rfl, iw, sl, rfl⟩)
    have ro2 : ∀ a, a ≠ 0 → (a < now s ∨ now s + 13 < a) → a ≠ 62 → a ≠ 63 → s2 a = s a := fun a z0 z1 z2 z3 => by rw [k5 a z0 z1, ro1 a (by omega) z2 z3]
    obtain ⟨s3, r1, r2, r3⟩ := ref s2 (fun a ha => ro2 a (by omega) (by omega) (by omega) (by omega))
    have hb3 : Eb s s3 := fun a z0 z1 => by rw [r2.1 a (by omega) (by omega) (by omega), ro2 a (by omega) (by omega) (by omega) (by omega)]
    have e114 := hb3 114 (by omega) (by omega)
    have hWk : Wf (kpB s3) := ew_Wf Ew_kp (eb_Wf hb3 hW)
    have hbk : Eb (kpB s) (kpB s3) := eb_kp hb3
    have far : ∀ a, a ≠ 114 → a ≠ 122 → a ≠ 116 → a ≠ 117 → a ≠ 121 → wlk (kpB s3) x (lsT x y z) (gtT x y z) a = s3 a := fun a z0 z1 z2 z3 z4 => by rw [wlk_row z2 z3 z4, kpB_o z0 z1]
    have w114 : wlk (kpB s3) x (lsT x y z) (gtT x y z) 114 6 = s 114 6 + 1 := by rw [wlk_o (by omega) (by omega) (by omega), kpB_6, e114]
    refine ⟨s 114 6 + 1, s2, wlk (kpB s3) x (lsT x y z) (gtT x y z), ?_, ?_, ?_⟩
    · have : (s2 0 4).toNat = now s := by rw [k4 4 (by omega), e0]; rfl
      rw [cls, if_pos L, k1, Option.bind_some, this, k2.1.2.2.2.2.2.1, wlk_o (by omega) (by omega) (by omega), kpB_6]
    · rw [r3, if_pos (by omega), FX12_keepsNight_ok hN (by rw [e114]; exact a5.1) (by rw [e114]; exact a5.2) (by rw [e114]; omega) (by rw [e114]; omega), Option.bind_some, FX12_walks_ok hWk (eb_isW hbk (kp_isW iw)) (eb_slO hbk (kp_slO sl)), Option.bind_some, rd_ok (by omega) (by omega), Option.bind_some, w114]
    · refine Inv_bk (s1 := s2) hI (by omega) (fun i hi => by rw [k4 i hi, e0]) (by rw [k3, e0]; omega) (fun a ha => ro2 a (by omega) (by omega) (by omega) (by omega)) k2 (WHm_mono (by omega) (WHm_wlk (WHm_kp (WH_m.mp h3)) (kp_isW iw) (kp_slO sl))) (by rw [wlk_o (by omega) (by omega) (by omega), kpB_j (by omega) (by omega)]; exact h5.2.2.2.1) (OZ_wlk (OZ_kp h10 a5.1 a5.2) (ew_Wf Ew_kp hW) (kp_isW iw) (kp_slO sl)) (fun a ha => by rw [far a (by omega) (by omega) (by omega) (by omega) (by omega), r2.1 a (by omega) (by omega) (by omega)]) (fun i hi => by rw [far 113 (by omega) (by omega) (by omega) (by omega) (by omega), r2.2 i (by omega) (by omega) (by omega)]) (eb_wlk hbk) (Me_bump ⟨h7, h8⟩ (by rw [far 64 (by omega) (by omega) (by omega) (by omega) (by omega), r2.1 64 (by omega) (by omega) (by omega), ro2 64 (by omega) (by omega) (by omega) (by omega)]) (by rw [far 81 (by omega) (by omega) (by omega) (by omega) (by omega), r2.1 81 (by omega) (by omega) (by omega), ro2 81 (by omega) (by omega) (by omega) (by omega)]) (by rw [far 0 (by omega) (by omega) (by omega) (by omega) (by omega), r2.1 0 (by omega) (by omega) (by omega), k3, e0]; omega))
  · obtain ⟨s3, r1, r2, r3⟩ := ref s1 (fun a ha => ro1 a (by omega) (by omega) (by omega))
    have hpos : ¬ lwf ru s x (lsT x y z) (gtT x y z) ≤ 0 := by
      have := lwf_nn (ru := ru) (B := s) (k := x) (r := lsT x y z) (o := gtT x y z)
      omega
    refine ⟨_, s1, s3, by rw [cls, if_neg L], by rw [r3, if_neg hpos], Inv_law hI (by omega) (fun a z0 z1 z2 z3 => ro1 a z0 z1 z2) f2.2.1 f2.2.2 r2⟩
-- undone
theorem invf_spec {f : Int → Int} {c : Int} : ∀ n : Nat, (invf f c n = -1 ∧ ∀ i : Int, 0 ≤ i → i < n → f i ≠ c) ∨ (0 ≤ invf f c n ∧ invf f c n < n ∧ f (invf f c n) = c) := by
  intro n
  induction n with
  | zero => left; exact ⟨rfl, fun i i0 i1 => by omega⟩
  | succ n ih =>
    unfold invf
    by_cases e : f n = c
    · right; rw [if_pos e]; exact ⟨by omega, by omega, e⟩
    · rw [if_neg e]
      rcases ih with ⟨a, b⟩ | ⟨a, b, d⟩
      · left; refine ⟨a, fun i i0 i1 z => ?_⟩
        by_cases e2 : i = n
        · rw [e2] at z; exact e z
        · exact b i i0 (by omega) z
      · right; exact ⟨a, by omega, d⟩
theorem lay_o {B : iv_M} {f g : Int → Int} {a : Nat} (h : a ≠ 116) (h1 : a ≠ 117) (h2 : a ≠ 121) : lay B f g a = B a := by
  funext i; unfold lay; rw [if_neg (by omega), if_neg (by omega), if_neg (by omega)]
theorem lay_6 {B : iv_M} {f g : Int → Int} {i : Int} (h : 0 ≤ i) (h1 : i < B 114 2) : lay B f g 116 i = f i := by
  unfold lay; rw [if_pos ⟨rfl, h, h1⟩]
theorem lay_7 {B : iv_M} {f g : Int → Int} {i : Int} (h : 0 ≤ i) (h1 : i < B 114 2) : lay B f g 117 i = g i := by
  unfold lay; rw [if_neg (by omega), if_pos ⟨rfl, h, h1⟩]
theorem lay_1 {B : iv_M} {f g : Int → Int} {i : Int} (h : 0 ≤ i) (h1 : i < 16) : lay B f g 121 i = invf f i (B 114 2).toNat := by
  unfold lay; rw [if_neg (by omega), if_neg (by omega), if_pos ⟨rfl, h, h1⟩]
theorem Wf_lay {B : iv_M} {f g : Int → Int} (hW : Wa B) (hv : FV B f g) : Wf (lay B f g) := by
  obtain ⟨v1, v2⟩ := hv
  have e4 : lay B f g 114 = B 114 := lay_o (by omega) (by omega) (by omega)
  have e5 : lay B f g 115 = B 115 := lay_o (by omega) (by omega) (by omega)
  have hr := hW.2.2.2.2.1
  refine ⟨?_, ?_, ?_⟩
  · unfold Wa at hW ⊢; rw [e4, e5]; exact hW
  · intro c c0 c1
    rw [lay_1 c0 c1, e4]
    rcases invf_spec (f := f) (c := c) (B 114 2).toNat with ⟨a, _⟩ | ⟨a, b, d⟩
    · left; exact a
    · right
      obtain ⟨z1, z2, z3, z4, z5, z6⟩ := v1 _ a (by omega)
      rw [lay_6 a (by omega), lay_7 a (by omega), d]
      rw [d] at z3 z4
      exact ⟨a, by omega, rfl, z5, z6, z3, z4⟩
  · intro r r0 r1
    rw [e4] at r1
    obtain ⟨z1, z2, z3, z4, z5, z6⟩ := v1 r r0 r1
    rw [lay_6 r0 r1, lay_1 z1 z2]
    refine ⟨z1, z2, ?_⟩
    rcases invf_spec (f := f) (c := f r) (B 114 2).toNat with ⟨a, b⟩ | ⟨a, b, d⟩
    · exact absurd rfl (b r r0 (by omega))
    · exact v2 _ _ a (by omega) r0 r1 d
theorem OZ_lay {B : iv_M} {f g : Int → Int} (hO : OZ B) (h12 : B 114 2 ≤ 12) : OZ (lay B f g) := by
  intro a a0 a1 i hi
  by_cases e6 : a = 116
  · subst e6
    have : ln 116 = 12 := by decide
    rw [this] at hi
    unfold lay
    rw [if_neg (by omega), if_neg (by omega), if_neg (by omega)]
    exact hO 116 (by omega) (by omega) i (by rw [this]; exact hi)
  · by_cases e7 : a = 117
    · subst e7
      have : ln 117 = 12 := by decide
      rw [this] at hi
      unfold lay
      rw [if_neg (by omega), if_neg (by omega), if_neg (by omega)]
      exact hO 117 (by omega) (by omega) i (by rw [this]; exact hi)
    · by_cases e1 : a = 121
      · subst e1
        have : ln 121 = 16 := by decide
        rw [this] at hi
        unfold lay
        rw [if_neg (by omega), if_neg (by omega), if_neg (by omega)]
        exact hO 121 (by omega) (by omega) i (by rw [this]; exact hi)
      · rw [lay_o e6 e7 e1]; exact hO a a0 a1 i hi
theorem eb_lay {B B' : iv_M} {f g : Int → Int} (h : Eb B B') : Eb (lay B f g) (lay B' f g) := by
  intro a a0 a1
  funext i
  unfold lay
  rw [h 114 (by omega) (by omega), h a a0 a1]
def unB (B : iv_M) : iv_M := lay (mu (mu B 114 7 (B 114 7 - 1)) 114 6 (B 114 6 - 1)) (pC B (B 114 7 - 1)) (pT B (B 114 7 - 1))
theorem ct_undo {t : Int} {N : Nat} {s : iv_M} (hN : 1000 ≤ N) (h : Inv t s) (t0 : 0 ≤ t) (t1 : t ≤ 1000) : ∃ a s1 s2, FX11_undo N s 0 = some (a, s1) ∧ FX12_undo N s1 113 = some (a, s2) ∧ Inv (t + 1) s2 := by
  have hI := h
  obtain ⟨h1, h2, h3, h4, h5, h6, h7, h8, h9, h10⟩ := h
  obtain ⟨n1, n2, n3⟩ := now_ne h1
  have hn := (now_HQ h1).2.1
  have hq : (s 0 4).toNat = now s := rfl
  have h15 := h9.1
  obtain ⟨hW, ⟨a1, a2, a3, a4, a5, _⟩, ⟨_, _, _, e4, _⟩⟩ := id h3
  obtain ⟨hr1, ⟨hF, hP⟩, j3, ⟨j4, j4', j4''⟩, j5, j6⟩ := id h2
  have hr2 := hW.1.2.2.2.2.2.1
  have hr20 := hW.1.2.2.2.2.1
  by_cases e0 : s 114 7 = 0
  · refine ⟨-2, s, s, ?_, ?_, HR1_mono (by omega) hI⟩
    · unfold FX11_undo; rw [hq, j4, if_pos e0]
    · unfold FX12_undo
      simp only [Nat.reduceAdd]
      rw [rd_ok (by omega) (by omega), Option.bind_some, if_pos e0]
  have hQ := HQ_TF (now_HQ h1).1
  have hQ2 := HQ_rows (now_HQ h1).1
  have hfv := e4 (s 114 7 - 1) (by omega) (by omega)
  obtain ⟨p1, p2⟩ := j4'' (s 114 7 - 1) (by omega) (by omega)
  obtain ⟨M, hM⟩ : ∃ M, M = mu (mu s 114 7 (s 114 7 - 1)) 114 6 (s 114 6 - 1) := ⟨_, rfl⟩
  have M4 : ∀ j, j ≠ 6 → j ≠ 7 → M 114 j = s 114 j := fun j z0 z1 => by rw [hM, mu_ne (by omega), mu_ne (by omega)]
  have M6 : M 114 6 = s 114 6 - 1 := by rw [hM, mu_eq]
  have M7 : M 114 7 = s 114 7 - 1 := by rw [hM, mu_ne (by omega), mu_eq]
  have Mo : ∀ a, a ≠ 114 → M a = s a := fun a ha => by rw [hM, mu_rw ha, mu_rw ha]
  have hu : unB s = lay M (pC s (s 114 7 - 1)) (pT s (s 114 7 - 1)) := by rw [hM]; rfl
  obtain ⟨U, hU⟩ : ∃ U, U = unB s := ⟨_, rfl⟩
  have U4 : U 114 = M 114 := by rw [hU, hu]; exact lay_o (by omega) (by omega) (by omega)
  have Uo : ∀ a, a ≠ 114 → a ≠ 116 → a ≠ 117 → a ≠ 121 → U a = s a := fun a z0 z1 z2 z3 => by rw [hU, hu, lay_o z1 z2 z3, Mo a z0]
  have hWa : Wa M := by have := hW.1; unfold Wa at this ⊢; rw [M4 0 (by omega) (by omega), M4 1 (by omega) (by omega), M4 2 (by omega) (by omega), Mo 115 (by omega)]; exact this
  have hWU : Wf U := by
    rw [hU, hu]
    exact Wf_lay hWa (FV_congr (M4 0 (by omega) (by omega)) (M4 1 (by omega) (by omega)) (M4 2 (by omega) (by omega)) (fun _ _ _ => ⟨rfl, rfl⟩) hfv)
  have U42 : U 114 2 = s 114 2 := by rw [U4, M4 2 (by omega) (by omega)]
  have U6 : ∀ i : Int, 0 ≤ i → i < ((s 114 2).toNat : Int) → U 116 i = pC s (s 114 7 - 1) i := fun i i0 i1 => by rw [hU, hu, lay_6 i0 (by rw [M4 2 (by omega) (by omega)]; omega)]
  have U7 : ∀ i : Int, 0 ≤ i → i < ((s 114 2).toNat : Int) → U 117 i = pT s (s 114 7 - 1) i := fun i i0 i1 => by rw [hU, hu, lay_7 i0 (by rw [M4 2 (by omega) (by omega)]; omega)]
  have hnb : nb U = nb s := by funext c d; exact nb_ext (by rw [U4, M4 0 (by omega) (by omega)]) (by rw [U4, M4 1 (by omega) (by omega)]) c d
  have pk2 : 0 ≤ s (now s + 13) (s 114 7 - 1) ∧ s (now s + 13) (s 114 7 - 1) < 281474976710656 := by
    rw [p2]
    have := pkd_lt (w := 2) (f := pT s (s 114 7 - 1)) (s 114 2).toNat (fun i i0 i1 => by
      have := hfv.1 i i0 (by omega)
      exact ⟨this.2.2.2.2.1, by simpa using this.2.2.2.2.2⟩)
    exact ⟨this.1, by have := pow_le12 (w := 2) (n := (s 114 2).toNat) (by omega) (by omega); omega⟩
  have pk2' : s (now s + 13) (s 114 7 - 1) < 2147483648 := by
    rw [p2]
    have := pkd_lt (w := 2) (f := pT s (s 114 7 - 1)) (s 114 2).toNat (fun i i0 i1 => by
      have := hfv.1 i i0 (by omega)
      exact ⟨this.2.2.2.2.1, by simpa using this.2.2.2.2.2⟩)
    have h24 : (2 : Nat) ^ (2 * (s 114 2).toNat) ≤ 2 ^ 24 := Nat.pow_le_pow_right (by decide) (by omega)
    have h25 : ((2 ^ (2 * (s 114 2).toNat) : Nat) : Int) ≤ ((2 ^ 24 : Nat) : Int) := by omega
    have h26 : ((2 ^ (2 * (s 114 2).toNat) : Nat) : Int) = (2 : Int) ^ (2 * (s 114 2).toNat) := by simp
    omega
  obtain ⟨s1, g1, g2, g3, g4⟩ := FX1_arrange_ok (N := N) (q := now s + 1) (s := s) (B := U) (y := s (now s + 11) (s 114 7 - 1)) (x := s (now s + 13) (s 114 7 - 1)) (by omega) hQ.1 hWU (by rw [U4, M4 0 (by omega) (by omega)]; exact hF.1) (by rw [U4, M4 1 (by omega) (by omega)]; exact hF.2.1) (by rw [U42]; exact hF.2.2.1) (by rw [hnb]; exact hF.2.2.2.2.2.1) (by rw [U42, Uo 115 (by omega) (by omega) (by omega) (by omega)]; exact hF.2.2.2.2.2.2.1) (by rw [p1, U42]; exact (pkd_congr _ U6).symm) (by rw [p2, U42]; exact (pkd_congr _ U7).symm)
  obtain ⟨s2, hs2⟩ : ∃ s2, s2 = mu (mu (mu (mu s1 (now s + 10) 1 (s 114 7 - 1)) (now s + 12) 1 (s 114 7 - 1)) (now s) 6 (s 114 6 - 1)) 0 15 (s 0 15 + 1) := ⟨_, rfl⟩
  have r1 : ∀ a, (a < now s + 1 ∨ now s + 6 < a) → s1 a = s a := fun a ha => by funext i; exact g4 a i (by omega)
  have r2 : ∀ a, a ≠ 0 → a ≠ now s → a ≠ now s + 10 → a ≠ now s + 12 → s2 a = s1 a := fun a z0 z1 z2 z3 => by rw [hs2, mu_rw z0, mu_rw z1, mu_rw z3, mu_rw z2]
  have r20 : ∀ i, i ≠ 15 → s2 0 i = s 0 i := fun i hi => by rw [hs2]; simp (disch := omega) only [mu_ne]; rw [r1 0 (by omega)]
  have r215 : s2 0 15 = s 0 15 + 1 := by rw [hs2, mu_eq]
  have rb : ∀ a, 113 ≤ a → s2 a = s a := fun a ha => by rw [r2 a (by omega) (by omega) (by omega) (by omega), r1 a (by omega)]
  have hcl : FX11_undo N s 0 = some (s 114 7 - 1, s2) := by
    unfold FX11_undo
    rw [hq, j4, if_neg e0]
    unfold FX2_takeNightBack
    have l11 : ((sh (now s + 10 + 1)).2 : Int) = 20 := by show ((sh (now s + 11)).2 : Int) = 20; rw [hQ2.2.1]; rfl
    have l13 : ((sh (now s + 12 + 1)).2 : Int) = 20 := by show ((sh (now s + 13)).2 : Int) = 20; rw [hQ2.2.2.1]; rfl
    rw [j4, w32_id (x := s 114 7 - 1) (by omega) (by omega), if_neg (by omega), if_pos (by omega), l11, l13, rd_ok (by omega) (by omega), Option.bind_some, rd_ok (by omega) (by omega), Option.bind_some]
    have w2 : w32 (s (now s + 12 + 1) (s 114 7 - 1)) = s (now s + 13) (s 114 7 - 1) := w32_id (by show _ ≤ s (now s + 13) (s 114 7 - 1); omega) pk2'
    rw [w2]
    have g1' : FX1_arrange N s (now s + 1) (s (now s + 10 + 1) (s 114 7 - 1)) (s (now s + 13) (s 114 7 - 1)) = some s1 := g1
    rw [g1', Option.bind_some, pt_ok, Option.bind_some, pt_ok, Option.bind_some, pt_ok, Option.bind_some, Option.bind_some, pt_ok, Option.bind_some]
    have q6 : mu (mu s1 (now s + 10) 1 (s 114 7 - 1)) (now s + 12) 1 (s 114 7 - 1) (now s) 6 = s 114 6 := by
      rw [mu_ne (by omega), mu_ne (by omega), r1 _ (by omega)]; exact hr1.2.2.2.2.2.1
    have q15 : mu (mu (mu s1 (now s + 10) 1 (s 114 7 - 1)) (now s + 12) 1 (s 114 7 - 1)) (now s) 6 (s 114 6 - 1) 0 15 = s 0 15 := by
      rw [mu_ne (by omega), mu_ne (by omega), mu_ne (by omega), r1 _ (by omega)]
    rw [q6, w32_id (x := s 114 6 - 1) (by omega) (by omega), q15, w32_id (x := s 0 15 + 1) (by omega) (by omega), ← hs2, r20 4 (by omega), hq]
    congr 2
    rw [hs2]; simp (disch := omega) only [mu_ne, mu_eq]
  have hb2 : Eb s s2 := fun a z0 z1 => rb a (by omega)
  have e114 := hb2 114 (by omega) (by omega)
  have e122 := hb2 122 (by omega) (by omega)
  obtain ⟨s3, hs3⟩ : ∃ s3, s3 = mu (mu s2 114 7 (s 114 7 - 1)) 114 6 (s 114 6 - 1) := ⟨_, rfl⟩
  have hbM : Eb M s3 := fun a z0 z1 => by
    rw [hs3, hM]
    funext i
    unfold mu
    rw [hb2 a z0 z1]
  have hrf : FX12_undo N s2 113 = some (s 114 7 - 1, lay s3 (pC s (s 114 7 - 1)) (pT s (s 114 7 - 1))) := by
    unfold FX12_undo
    simp only [Nat.reduceAdd]
    have s3_2 : s3 114 2 = s 114 2 := by rw [hbM 114 (by omega) (by omega), M4 2 (by omega) (by omega)]
    have s3_22 : s3 122 = s 122 := by rw [hbM 122 (by omega) (by omega), Mo 122 (by omega)]
    have ly := FX12_laysFloor_ok (N := N) (q := 122) (s := s3) (b := 24 * (s 114 7 - 1)) (m := 480) (by omega) (by omega) (by decide) (by omega) (by omega) (by rw [s3_2]; exact hr20) (by rw [s3_2]; exact hr2) (fun r r0 r1 => by
      rw [s3_2] at r1
      rw [s3_22]
      have := hfv.1 r r0 r1
      exact ⟨this.1, this.2.1⟩)
    rw [rd_ok (by omega) (by omega), Option.bind_some, e114, if_neg e0, Option.bind_some, w32_id (x := s 114 7 - 1) (by omega) (by omega), wr_ok (by omega) (by omega), Option.bind_some, rd_ok (by omega) (by omega), Option.bind_some, mu_ne (by omega), e114, w32_id (x := s 114 6 - 1) (by omega) (by omega), wr_ok (by omega) (by omega), Option.bind_some, ← hs3, rd_ok (by omega) (by omega), Option.bind_some, hbM 114 (by omega) (by omega), M7, w32_id (x := 24 * (s 114 7 - 1)) (by omega) (by omega), ly, Option.bind_some, rd_ok (by omega) (by omega), Option.bind_some, lay_o (by omega) (by omega) (by omega), hbM 114 (by omega) (by omega), M7, s3_22]
    rfl
  have hE : Eb U (lay s3 (pC s (s 114 7 - 1)) (pT s (s 114 7 - 1))) := by rw [hU, hu]; exact eb_lay hbM
  have far : ∀ a, a ≠ 114 → a ≠ 116 → a ≠ 117 → a ≠ 121 → lay s3 (pC s (s 114 7 - 1)) (pT s (s 114 7 - 1)) a = s2 a := fun a z0 z1 z2 z3 => by rw [lay_o z1 z2 z3, hs3, mu_rw z0, mu_rw z0]
  refine ⟨s 114 7 - 1, s2, _, hcl, hrf, ?_⟩
  have hH2 : HR s2 (now s) U := by
    refine HR_past h2 (fun a ha => by rw [r2 a (by omega) (by omega) (by omega) (by omega), r1 a (by omega)]) (fun i hi => ?_) ?_ (fun j z0 z1 => by rw [U4, M4 j z0 z1]) (fun a ha => Uo a (by omega) (by omega) (by omega) (by omega)) (FRc_ext (fun a z0 z1 => r2 a (by omega) (by omega) (by omega) (by omega)) g2) (FP_ext (r2 _ (by omega) (by omega) (by omega) (by omega)) g3) ?_
    · rw [hs2]; simp (disch := omega) only [mu_ne]; rw [r1 _ (by omega)]
    · rw [hs2, mu_ne (by omega), mu_eq, U4, M6]
    · have ep : pC U = pC s := by funext j r; unfold pC; rw [Uo 122 (by omega) (by omega) (by omega) (by omega)]
      have et : pT U = pT s := by funext j r; unfold pT; rw [Uo 122 (by omega) (by omega) (by omega) (by omega)]
      refine ⟨?_, ?_, fun j z0 z1 => ?_⟩
      · rw [hs2, U4, M7]; simp (disch := omega) only [mu_ne, mu_eq]
      · rw [hs2, U4, M7]; simp (disch := omega) only [mu_ne, mu_eq]
      · rw [U4, M7] at z1
        rw [ep, et, U42, r2 (now s + 11) (by omega) (by omega) (by omega) (by omega), r2 (now s + 13) (by omega) (by omega) (by omega) (by omega), r1 _ (by omega), r1 _ (by omega)]
        exact j4'' j z0 (by omega)
  have hWH : WHm (20 * t + 1) U := by
    refine WHm_past (WH_m.mp h3) (fun j z0 z1 => by rw [U4, M4 j z0 z1]) (fun a ha => Uo a (by omega) (by omega) (by omega) (by omega)) hWU (by rw [U4, M6]; omega) (by rw [U4, M7]; omega) (fun j z0 z1 => ?_)
    rw [U4, M7] at z1
    have ep : pC U = pC s := by funext j r; unfold pC; rw [Uo 122 (by omega) (by omega) (by omega) (by omega)]
    have et : pT U = pT s := by funext j r; unfold pT; rw [Uo 122 (by omega) (by omega) (by omega) (by omega)]
    rw [ep, et]
    exact FV_congr (by rw [U4, M4 0 (by omega) (by omega)]) (by rw [U4, M4 1 (by omega) (by omega)]) U42 (fun _ _ _ => ⟨rfl, rfl⟩) (e4 j z0 (by omega))
  refine Inv_bk (s1 := s2) hI (by omega) r20 (by omega) (fun a ha => by
      by_cases z : 113 ≤ a
      · exact rb a z
      · rw [r2 a (by omega) (by omega) (by omega) (by omega), r1 a (by omega)]) hH2 (WHm_mono (by omega) hWH) (by rw [U4, M4 12 (by omega) (by omega)]; exact h5.2.2.2.1) ?_ (fun a ha => far a (by omega) (by omega) (by omega) (by omega)) (fun i hi => by rw [far 113 (by omega) (by omega) (by omega) (by omega)]) hE (Me_bump ⟨h7, h8⟩ (by rw [far 64 (by omega) (by omega) (by omega) (by omega), r2 64 (by omega) (by omega) (by omega) (by omega), r1 64 (by omega)]) (by rw [far 81 (by omega) (by omega) (by omega) (by omega), r2 81 (by omega) (by omega) (by omega) (by omega), r1 81 (by omega)]) (by rw [far 0 (by omega) (by omega) (by omega) (by omega)]; omega))
  rw [hU, hu, hM]
  exact OZ_lay (OZ_mu (OZ_mu h10 (fun _ _ => by unfold ln; simp)) (fun _ _ => by unfold ln; simp)) (by rw [mu_ne (by omega), mu_ne (by omega)]; exact hr2)
