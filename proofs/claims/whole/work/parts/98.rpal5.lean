-- PALACE: the sides of a room
def srtc (c : Int) : Int := if c = 46 then 0 else if c = 100 then 1 else if c = 119 then 2 else if 49 ≤ c ∧ c ≤ 52 then c - 46 else -1
theorem srtc_rg {c : Int} : srtc c = -1 ∨ (0 ≤ srtc c ∧ srtc c ≤ 6) := by
  unfold srtc; repeat' split
  all_goals omega
theorem sortOf_ok {N : Nat} {s : iv_M} {x : Int} (x0 : -1 ≤ x) (x1 : x < 256) : FX5_sortOf N s x = some (srtc x) := by
  unfold FX5_sortOf FX5_sortOf_b63 FX5_sortOf_b64 srtc
  by_cases a : x = 46
  · rw [if_pos a, if_pos a]
  rw [if_neg a, if_neg a]
  by_cases c : x = 100
  · rw [if_pos c, if_pos c]
  rw [if_neg c, if_neg c]
  by_cases d : x = 119
  · rw [if_pos d, if_pos d]
  rw [if_neg d, if_neg d]
  by_cases e : x < 49
  · rw [if_pos e, if_neg (by omega)]
  rw [if_neg e]
  by_cases f : 52 < x
  · rw [if_pos f, if_neg (by omega)]
  rw [if_neg f, if_pos (by omega), w32_id (x := 3 + x) (by omega) (by omega), w32_id (by omega) (by omega), show 3 + x - 49 = x - 46 by omega]
theorem signAt_ok {N : Nat} {s : iv_M} {b : Int → Int} {L p ft : Int} (hR : RT s b L p ft) (hT : TX b L) (p0 : 0 ≤ p) : FX12_signAt N s 113 = some (srtc (sg b L p)) := by
  have hL := hT.2.1
  unfold FX12_signAt
  simp only [Nat.reduceAdd]
  rw [hR.1, hR.2.1]
  by_cases e : p < L
  · have hb := hT.2.2 p p0 e
    have hs : sg b L p = b p % 256 := by unfold sg; rw [if_pos e]
    rw [if_pos e, rd_ok p0 (by omega), Option.bind_some, hR.2.2.2 p p0 e, hs]
    unfold srtc
    generalize b p = x at hb
    repeat' split
    all_goals first | rfl | (exfalso; omega) | (apply congrArg some; omega)
  · rw [if_neg e]
    have : sg b L p = -1 := by unfold sg; rw [if_neg e]
    rw [this]; rfl
theorem sg_rg {b : Int → Int} {L p : Int} : -1 ≤ sg b L p ∧ sg b L p < 256 := by
  unfold sg; split <;> omega
/-- what the four signs leave: rows of sides on both -/
def SdR (sc0 sc sr0 sr : iv_M) (F : Nat) (n d : Int) : Prop := (∀ a, a ≠ 55 → a ≠ F + 4 → sc a = sc0 a) ∧ (∀ j, ¬ (4 * n + d ≤ j ∧ j < 4 * n + 4) → sc (F + 4) j = sc0 (F + 4) j) ∧ (∀ i, i ≠ 2 → i ≠ 4 → sc 55 i = sc0 55 i) ∧ (∀ a, a ≠ 113 → a ≠ 133 → sr a = sr0 a) ∧ (∀ j, ¬ (4 * n + d ≤ j ∧ j < 4 * n + 4) → sr 133 j = sr0 133 j) ∧ ∀ i, i ≠ 29 → i ≠ 30 → sr 113 i = sr0 113 i
theorem sides_l {N F : Nat} {b : Int → Int} {L n fr : Int} {kc : iv_M → Option iv_M} {kr : iv_M → Option iv_M} (hF : F = 10 ∨ F = 32) (hT : TX b L) (n0 : 0 ≤ n) (n1 : n < 12) : ∀ (m f g : Nat) (d : Int) (sc sr : iv_M) (p : Int), 0 ≤ d → d + m = 4 → m < f → m + 1 < g → 0 ≤ p → p ≤ 404 → sc F 2 = n → RD sc 55 b L p fr 0 → RT sr b L p 0 →
    (∃ sc' sr', FX5_readRoom_l10 N 54 F kc f sc d = kc sc' ∧ FX12_readsRoom_l13 N 113 n kr g sr d = kr sr' ∧ RD sc' 55 b L (p + m) fr 0 ∧ RT sr' b L (p + m) 0 ∧ p + m ≤ max p L ∧ SdR sc sc' sr sr' F n d ∧ ∀ j, 4 * n + d ≤ j → j < 4 * n + 4 → sc' (F + 4) j = sr' 133 j ∧ 0 ≤ sr' 133 j ∧ sr' 133 j ≤ 6) ∨
    (∃ sc' sr' ft p', FX5_readRoom_l10 N 54 F kc f sc d = some sc' ∧ FX12_readsRoom_l13 N 113 n kr g sr d = kr sr' ∧ (0 < ft ∧ ft ≤ 10000) ∧ sc' 55 4 = ft ∧ p ≤ p' ∧ p' ≤ p + m ∧ RT sr' b L p' ft ∧ SdR sc sc' sr sr' F n d) := by
  intro m
  induction m with
  | zero =>
    intro f g d sc sr p d0 hd hf hg p0 p1 h2 hR hRT
    obtain ⟨f', rfl⟩ : ∃ f', f = f' + 1 := ⟨f - 1, by omega⟩
    obtain ⟨g', rfl⟩ : ∃ g', g = g' + 1 := ⟨g - 1, by omega⟩
    left
    refine ⟨sc, sr, ?_, ?_, by rw [show p + ((0 : Nat) : Int) = p by omega]; exact hR, by rw [show p + ((0 : Nat) : Int) = p by omega]; exact hRT, by omega, ⟨fun _ _ _ => rfl, fun _ _ => rfl, fun _ _ _ => rfl, fun _ _ _ => rfl, fun _ _ => rfl, fun _ _ _ => rfl⟩, fun j j0 j1 => by omega⟩
    · rw [FX5_readRoom_l10, if_pos (by omega)]
    · rw [FX12_readsRoom_l13, if_pos (by omega)]
  | succ m ih =>
    intro f g d sc sr p d0 hd hf hg p0 p1 h2 hR hRT
    obtain ⟨f', rfl⟩ : ∃ f', f = f' + 1 := ⟨f - 1, by omega⟩
    obtain ⟨g', rfl⟩ : ∃ g', g = g' + 1 := ⟨g - 1, by omega⟩
    have hs := sg_rg (b := b) (L := L) (p := p)
    have ec : FX5_readRoom_l10 N 54 F kc (f' + 1) sc d = if srtc (sg b L p) = -1 then some (mu sc 55 4 (ffl 0 p 0)) else ((wr sc (F + 4) 48 (w32 (w32 (4 * n) + d)) (srtc (sg b L p))).bind fun s_1045 => ((pt s_1045 55 2 (w32 (s_1045 55 2 + 1))).bind fun s_1048 => FX5_readRoom_l10 N 54 F kc f' s_1048 (w32 (d + 1)))) := by
      rw [FX5_readRoom_l10, if_neg (by omega)]
      simp only [Nat.reduceAdd]
      rw [here_ok hR hT p0, Option.bind_some, sortOf_ok hs.1 hs.2, Option.bind_some, h2, hR.2.2.1, fail_ok p0 (by omega) (by omega) (by omega), Option.bind_some, hR.2.2.2.2.1]
    have er : FX12_readsRoom_l13 N 113 n kr (g' + 1) sr d = if srtc (sg b L p) = -1 then FX12_readsRoom_l13 N 113 n kr g' (rtM sr p (ffl 0 p 0)) (w32 (d + 1)) else ((wr sr 133 48 (w32 (w32 (4 * n) + d)) (srtc (sg b L p))).bind fun s_2742 => ((pt s_2742 113 29 (w32 (s_2742 113 29 + 1))).bind fun s_2745 => FX12_readsRoom_l13 N 113 n kr g' s_2745 (w32 (d + 1)))) := by
      rw [FX12_readsRoom_l13, if_neg (by omega), hRT.2.2.1, if_pos rfl]
      simp only [Nat.reduceAdd]
      unfold FX12_readsRoom_b68
      rw [signAt_ok hRT hT p0, Option.bind_some, hRT.2.1, fails_ok hRT p0 (by omega) (by omega) (by omega), Option.bind_some]
    rw [ec, er]
    by_cases bad : srtc (sg b L p) = -1
    · right
      have fp := ffl_ne (p := p) (k := 0) p0 (by omega)
      have fv : ffl 0 p 0 = 1 + 8 * p + 0 := by unfold ffl; rw [if_pos rfl]
      obtain ⟨g2, rfl⟩ : ∃ g2, g' = g2 + 1 := ⟨g' - 1, by omega⟩
      refine ⟨mu sc 55 4 (ffl 0 p 0), rtM sr p (ffl 0 p 0), ffl 0 p 0, p, by rw [if_pos bad], ?_, by omega, mu_eq, by omega, by omega, RT_M hRT, ⟨fun a a1 a2 => by rw [mu_rw a1], fun j _ => by rw [mu_rw (by omega)], fun i i1 i2 => by rw [mu_ne (by omega)], fun a a1 a2 => rtM_o a1, fun j _ => by rw [rtM_o (by decide)], fun i i1 i2 => rtM_i i1 i2⟩⟩
      rw [if_pos bad, w32_id (by omega) (by omega), FX12_readsRoom_l13]
      by_cases u : 4 ≤ d + 1
      · rw [if_pos u]
      · rw [if_neg u, rtM_f, if_neg fp]
    have hp : p < L := by
      by_cases z : p < L
      · exact z
      · exfalso; apply bad
        have : sg b L p = -1 := by unfold sg; rw [if_neg z]
        rw [this]; rfl
    have hL := hT.2.1
    rcases srtc_rg (c := sg b L p) with z | ⟨v0, v1⟩
    · exact absurd z bad
    obtain ⟨v, hv⟩ : ∃ v, v = srtc (sg b L p) := ⟨_, rfl⟩
    rw [← hv] at bad v0 v1 ⊢
    obtain ⟨yc, hyc⟩ : ∃ yc, yc = mu (mu sc (F + 4) (4 * n + d) v) 55 2 (p + 1) := ⟨_, rfl⟩
    obtain ⟨yr, hyr⟩ : ∃ yr, yr = mu (mu sr 133 (4 * n + d) v) 113 29 (p + 1) := ⟨_, rfl⟩
    have e55 : mu sc (F + 4) (4 * n + d) v 55 2 = p := by rw [mu_rw (by omega)]; exact hR.2.2.1
    have e29 : mu sr 133 (4 * n + d) v 113 29 = p := by rw [mu_rw (by decide)]; exact hRT.2.1
    rw [if_neg bad, if_neg bad, w32_id (x := 4 * n) (by omega) (by omega), w32_id (x := 4 * n + d) (by omega) (by omega), wr_ok (by omega) (by omega), Option.bind_some, pt_ok, Option.bind_some, e55, wr_ok (by omega) (by omega), Option.bind_some, pt_ok, Option.bind_some, e29, w32_id (x := p + 1) (by omega) (by omega), w32_id (x := d + 1) (by omega) (by omega), ← hyc, ← hyr]
    have yR : RD yc 55 b L (p + 1) fr 0 := by rw [hyc]; exact RD_2 (RD_mu hR (by omega) (by omega))
    have yRT : RT yr b L (p + 1) 0 := by
      have h0 := RT_mu (a := 133) (i := 4 * n + d) (v := v) hRT (by decide) (by decide)
      have := RT_M (p' := p + 1) (ft' := 0) h0
      rw [← rtM_mu h0] at this
      rw [hyr]; exact this
    have y4 : yc (F + 4) (4 * n + d) = v := by rw [hyc, mu_rw (by omega), mu_eq]
    have y33 : yr 133 (4 * n + d) = v := by rw [hyr, mu_rw (by decide), mu_eq]
    have ysd : ∀ sc' sr', SdR yc sc' yr sr' F n (d + 1) → SdR sc sc' sr sr' F n d := fun sc' sr' h => by
      obtain ⟨a1, a2, a3, a4, a5, a6⟩ := h
      refine ⟨fun a x1 x2 => by rw [a1 a x1 x2, hyc, mu_rw x1, mu_rw x2], fun j hj => by rw [a2 j (by omega), hyc, mu_rw (by omega), mu_ne (by omega)], fun i x1 x2 => by rw [a3 i x1 x2, hyc, mu_ne (by omega), mu_rw (by omega)], fun a x1 x2 => by rw [a4 a x1 x2, hyr, mu_rw x1, mu_rw x2], fun j hj => by rw [a5 j (by omega), hyr, mu_rw (by decide), mu_ne (by omega)], fun i x1 x2 => by rw [a6 i x1 x2, hyr, mu_ne (by omega), mu_rw (by decide)]⟩
    rcases ih f' g' (d + 1) yc yr (p + 1) (by omega) (by omega) (by omega) (by omega) (by omega) (by omega) (by rw [hyc, mu_rw (by omega), mu_rw (by omega)]; exact h2) yR yRT with ⟨sc', sr', b1, b2, b3, b4, b5, b6, b7⟩ | ⟨sc', sr', ft, p', b1, b2, b3, b4, b5, b6, b7, b8⟩
    · left
      refine ⟨sc', sr', b1, b2, by rw [show p + ((m + 1 : Nat) : Int) = p + 1 + (m : Int) by omega]; exact b3, by rw [show p + ((m + 1 : Nat) : Int) = p + 1 + (m : Int) by omega]; exact b4, by omega, ysd sc' sr' b6, fun j j0 j1 => ?_⟩
      by_cases g : j = 4 * n + d
      · rw [g, b6.2.1 _ (by omega), b6.2.2.2.2.1 _ (by omega), y4, y33]; exact ⟨rfl, v0, v1⟩
      · exact b7 j (by omega) j1
    · right
      exact ⟨sc', sr', ft, p', b1, b2, b3, b4, by omega, by omega, b7, ysd sc' sr' b8⟩
