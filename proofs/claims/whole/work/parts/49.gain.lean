-- WHAT A WALK GAINS
def wlk (B : iv_M) (k r o : Int) : iv_M := if k = 1 then wS B r (nb B (B 116 r) o) else if k = 2 then wC B r o else wT B r 1
def wlb (B : iv_M) (k r o : Int) : iv_M := if k = 1 then wS B r (nb B (B 116 r) ((o + 2) % 4)) else if k = 2 then wC B r o else wT B r 3
/-- a walk there can be -/
def isW (B : iv_M) (k r o : Int) : Prop := 0 ≤ r ∧ r < B 114 2 ∧ ((k = 1 ∧ 0 ≤ o ∧ o < 4) ∨ (k = 2 ∧ 0 ≤ o ∧ o < B 114 2 ∧ r ≠ o) ∨ (k = 3 ∧ o = 0))
/-- a slide goes to an empty cell -/
def slO (B : iv_M) (k r o : Int) : Prop := k = 1 → nb B (B 116 r) o ≠ -1 ∧ B 121 (nb B (B 116 r) o) = -1
def sT (B : iv_M) (c t : Int) : Int := if nb B c 0 = t then 0 else if nb B c 1 = t then 1 else if nb B c 2 = t then 2 else if nb B c 3 = t then 3 else -1
def cnI (B : iv_M) (k r o : Int) : Int := if k = 1 then (if nb B (B 116 r) o ≠ -1 ∧ B 121 (nb B (B 116 r) o) = -1 then 1 else 0) else if k = 3 then 1 else if sT B (B 116 r) (B 116 o) = -1 then 0 else 1
theorem nb_eq {B : iv_M} {c d : Int} (h : nb B c d ≠ -1) : isC B (c % 4 + dxx d) (c / 4 + dyy d) ∧ nb B c d = c + dxx d + 4 * dyy d := by
  unfold nb at h ⊢
  split at h
  · next hh => rw [if_pos hh]; exact ⟨hh, by omega⟩
  · exact absurd rfl h
theorem nb_in {B : iv_M} {c d : Int} (hW : Wa B) (h : nb B c d ≠ -1) : 0 ≤ nb B c d ∧ nb B c d < 16 ∧ nb B c d % 4 < B 114 0 ∧ nb B c d / 4 < B 114 1 ∧ nb B c d % 4 = c % 4 + dxx d := by
  obtain ⟨h1, h2, h3, h4, _⟩ := hW
  unfold nb at h ⊢
  split at h
  · next hh => rw [if_pos hh]; unfold isC at hh; omega
  · exact absurd rfl h
theorem nb_back {B : iv_M} {c d : Int} (hW : Wa B) (c0 : 0 ≤ c) (cx : c % 4 < B 114 0) (cy : c / 4 < B 114 1) (d0 : 0 ≤ d) (d1 : d < 4) (h : nb B c d ≠ -1) : nb B (nb B c d) ((d + 2) % 4) = c := by
  obtain ⟨e1, e2⟩ := nb_eq h
  obtain ⟨g1, g2, g3, g4, g5⟩ := nb_in hW h
  generalize nb B c d = t at *
  obtain ⟨h1, h2, h3, h4, _⟩ := hW
  unfold nb
  rcases four d0 d1 with rfl | rfl | rfl | rfl <;> simp [dxx, dyy, isC] at * <;> omega
theorem wS_wS {B : iv_M} {r c : Int} (hW : Wf B) (r0 : 0 ≤ r) (r1 : r < B 114 2) (he : B 121 c = -1) : wS (wS B r c) r (B 116 r) = B := by
  obtain ⟨g1, g2, g3, g4, g5, g6, g7⟩ := hW.room r0 r1
  have hne : c ≠ B 116 r := fun e => by rw [e, g3] at he; omega
  funext a i
  by_cases e1 : a = 121
  · subst e1
    rw [wS_1, wS_1, wS_6, if_pos rfl]
    by_cases e2 : i = B 116 r
    · rw [if_pos e2, e2, g3]
    · rw [if_neg e2]
      by_cases e3 : i = c
      · rw [if_pos e3, e3, he]
      · rw [if_neg e3, if_neg e3, if_neg e2]
  · by_cases e2 : a = 116
    · subst e2
      rw [wS_6, wS_6]
      by_cases e3 : i = r
      · rw [if_pos e3, e3]
      · rw [if_neg e3, if_neg e3]
    · rw [wS_o e2 e1, wS_o e2 e1]
theorem wC_wC {B : iv_M} {r o : Int} (hW : Wf B) (r0 : 0 ≤ r) (r1 : r < B 114 2) (o0 : 0 ≤ o) (o1 : o < B 114 2) (h : r ≠ o) : wC (wC B r o) r o = B := by
  obtain ⟨g1, g2, g3, g4, g5, g6, g7⟩ := hW.room r0 r1
  obtain ⟨k1, k2, k3, k4, k5, k6, k7⟩ := hW.room o0 o1
  funext a i
  by_cases e1 : a = 121
  · subst e1
    rw [wC_1, wC_1, wC_6, wC_6, if_neg h, if_pos rfl, if_pos rfl]
    by_cases e2 : i = B 116 o
    · rw [if_pos e2, e2, k3]
    · rw [if_neg e2]
      by_cases e3 : i = B 116 r
      · rw [if_pos e3, e3, g3]
      · rw [if_neg e3, if_neg e3, if_neg e2]
  · by_cases e2 : a = 116
    · subst e2
      rw [wC_6, wC_6, wC_6, wC_6, if_neg h, if_pos rfl, if_pos rfl]
      by_cases e3 : i = o
      · rw [if_pos e3, e3]
      · rw [if_neg e3, if_neg e3]
        by_cases e4 : i = r
        · rw [if_pos e4, e4]
        · rw [if_neg e4, if_neg e4]
    · rw [wC_o e2 e1, wC_o e2 e1]
theorem wT_wT {B : iv_M} {r : Int} (hW : Wf B) (r0 : 0 ≤ r) (r1 : r < B 114 2) : wT (wT B r 1) r 3 = B := by
  obtain ⟨g1, g2, g3, g4, g5, g6, g7⟩ := hW.room r0 r1
  funext a i
  by_cases e1 : a = 117
  · subst e1
    rw [wT_7, wT_7, wT_7, if_pos rfl]
    by_cases e3 : i = r
    · rw [if_pos e3, e3]; omega
    · rw [if_neg e3, if_neg e3]
  · rw [wT_o e1, wT_o e1]
theorem wlk_o {B : iv_M} {k r o i : Int} {a : Nat} (h : a ≠ 116) (h1 : a ≠ 117) (h2 : a ≠ 121) : wlk B k r o a i = B a i := by
  unfold wlk
  split
  · exact wS_o h h2
  · split
    · exact wC_o h h2
    · exact wT_o h1
theorem wlb_wlk {B : iv_M} {k r o : Int} (hW : Wf B) (h : isW B k r o) (hs : slO B k r o) : wlb (wlk B k r o) k r o = B := by
  obtain ⟨r0, r1, hk⟩ := h
  obtain ⟨g1, g2, g3, g4, g5, g6, g7⟩ := hW.room r0 r1
  unfold wlb wlk
  rcases hk with ⟨rfl, o0, o1⟩ | ⟨rfl, o0, o1, hro⟩ | ⟨rfl, rfl⟩
  · obtain ⟨s1, s2⟩ := hs rfl
    rw [if_pos rfl, if_pos rfl, wS_6, if_pos rfl, nb_ext (wS_o (by omega) (by omega)) (wS_o (by omega) (by omega)), nb_back hW.1 g1 g6 g7 o0 o1 s1, wS_wS hW r0 r1 s2]
  · rw [if_neg (by omega), if_pos rfl, if_neg (by omega), if_pos rfl, wC_wC hW r0 r1 o0 o1 hro]
  · rw [if_neg (by omega), if_neg (by omega), if_neg (by omega), if_neg (by omega), wT_wT hW r0 r1]
theorem Wf_wlk {B : iv_M} {k r o : Int} (hW : Wf B) (h : isW B k r o) (hs : slO B k r o) : Wf (wlk B k r o) := by
  obtain ⟨r0, r1, hk⟩ := h
  unfold wlk
  rcases hk with ⟨rfl, o0, o1⟩ | ⟨rfl, o0, o1, hro⟩ | ⟨rfl, rfl⟩
  · obtain ⟨s1, s2⟩ := hs rfl
    obtain ⟨t1, t2, t3, t4, t5⟩ := nb_in hW.1 s1
    rw [if_pos rfl]; exact Wf_wS hW r0 r1 t1 t2 t3 t4 s2
  · rw [if_neg (by omega), if_pos rfl]; exact Wf_wC hW r0 r1 o0 o1 hro
  · rw [if_neg (by omega), if_neg (by omega)]; exact Wf_wT hW
theorem go_ok {N q : Nat} {s B : iv_M} {k r o : Int} (hN : 100 ≤ N) (hT : TF q) (hW : Wf B) (hF : FRc s q B) (hP : FP s q B) (h : isW B k r o) (hs : slO B k r o) : ∃ s', FX1_stir N s q (256 * k + 16 * r + o) 1 = some s' ∧ FRc s' q (wlk B k r o) ∧ FP s' q (wlk B k r o) ∧ Fo q (q + 5) s s' := by
  obtain ⟨r0, r1, hk⟩ := h
  unfold wlk
  rcases hk with ⟨rfl, o0, o1⟩ | ⟨rfl, o0, o1, hro⟩ | ⟨rfl, rfl⟩
  · obtain ⟨s1, s2⟩ := hs rfl
    rw [if_pos rfl]; exact stir_S hN hT hW hF hP r0 r1 o0 o1 (by rw [if_neg (by omega)]) s1 s2
  · rw [if_neg (by omega), if_pos rfl]; exact stir_C hN hT hW hF hP r0 r1 o0 o1 hro
  · rw [if_neg (by omega), if_neg (by omega)]
    have := stir_T (b := 1) hN hT hW hF hP r0 r1
    rw [if_neg (by omega)] at this; exact this
theorem bk_ok {N q : Nat} {s B : iv_M} {k r o : Int} (hN : 100 ≤ N) (hT : TF q) (hW : Wf B) (h : isW B k r o) (hs : slO B k r o) (hF : FRc s q (wlk B k r o)) (hP : FP s q (wlk B k r o)) : ∃ s', FX1_stir N s q (256 * k + 16 * r + o) 0 = some s' ∧ FRc s' q B ∧ FP s' q B ∧ Fo q (q + 5) s s' := by
  have hW' := Wf_wlk hW h hs
  have hb := wlb_wlk hW h hs
  have hw2 : wlk B k r o 114 2 = B 114 2 := wlk_o (by omega) (by omega) (by omega)
  obtain ⟨r0, r1, hk⟩ := h
  obtain ⟨g1, g2, g3, g4, g5, g6, g7⟩ := hW.room r0 r1
  unfold wlb at hb
  rcases hk with ⟨rfl, o0, o1⟩ | ⟨rfl, o0, o1, hro⟩ | ⟨rfl, rfl⟩
  · rw [if_pos rfl] at hb
    obtain ⟨s1, s2⟩ := hs rfl
    have hne : nb B (B 116 r) o ≠ B 116 r := fun e => by rw [e, g3] at s2; omega
    have hc : nb (wlk B 1 r o) (wlk B 1 r o 116 r) ((o + 2) % 4) = B 116 r := by
      unfold wlk; rw [if_pos rfl, wS_6, if_pos rfl, nb_ext (wS_o (by omega) (by omega)) (wS_o (by omega) (by omega)), nb_back hW.1 g1 g6 g7 o0 o1 s1]
    have := stir_S (b := 0) (c := nb (wlk B 1 r o) (wlk B 1 r o 116 r) ((o + 2) % 4)) hN hT hW' hF hP r0 (by omega) o0 o1 (by rw [if_pos rfl]) (by rw [hc]; omega) (by
      rw [hc]; unfold wlk; rw [if_pos rfl, wS_1, if_neg (fun z => hne z.symm), if_pos rfl])
    rw [hb] at this; exact this
  · rw [if_neg (by omega), if_pos rfl] at hb
    have := stir_C (b := 0) hN hT hW' hF hP r0 (by omega) o0 (by omega) hro
    rw [hb] at this; exact this
  · rw [if_neg (by omega), if_neg (by omega)] at hb
    have := stir_T (b := 0) hN hT hW' hF hP r0 (by omega)
    rw [if_pos rfl, hb] at this; exact this
-- which side leads to a cell
theorem FX1_sideTo_st {N q n : Nat} {s B : iv_M} {c t i : Int} {kx : Unit → Option Int} (hF : FRc s q B) (c0 : 0 ≤ c) (c1 : c < 16) (i0 : 0 ≤ i) (i1 : i < 4) : FX1_sideTo_l2 N s q c t kx (n + 1) i = if nb B c i = t then some i else FX1_sideTo_l2 N s q c t kx n (i + 1) := by
  rw [FX1_sideTo_l2, if_neg (by omega), w32_id (x := 4 * c) (by omega) (by omega), w32_id (x := 4 * c + i) (by omega) (by omega), rd_ok (by omega) (by omega), Option.bind_some, hF.2.2.2.2.2.1 c i c0 c1 i0 i1, w32_id (by omega) (by omega)]
theorem FX1_sideTo_ok {N q : Nat} {s B : iv_M} {c t : Int} (hN : 100 ≤ N) (hF : FRc s q B) (c0 : 0 ≤ c) (c1 : c < 16) : FX1_sideTo N s q c t = some (sT B c t) := by
  unfold FX1_sideTo sT
  obtain ⟨M, rfl⟩ : ∃ M, N = M + 5 := ⟨N - 5, by omega⟩
  have h4 : FX1_sideTo_l2 (M + 5) s q c t (fun (_ : Unit) => (some (-1))) (M + 1) (0 + 1 + 1 + 1 + 1) = some (-1) := by rw [FX1_sideTo_l2, if_pos (by omega)]
  rw [FX1_sideTo_st hF c0 c1 (by omega) (by omega), FX1_sideTo_st hF c0 c1 (by omega) (by omega), FX1_sideTo_st hF c0 c1 (by omega) (by omega), FX1_sideTo_st hF c0 c1 (by omega) (by omega), h4]
  by_cases h0 : nb B c 0 = t <;> by_cases h1 : nb B c 1 = t <;> by_cases h2 : nb B c 2 = t <;> by_cases h3 : nb B c 3 = t <;> simp [h0, h1, h2, h3]
theorem sT_ok {B : iv_M} {c t : Int} (h : sT B c t ≠ -1) : 0 ≤ sT B c t ∧ sT B c t < 4 ∧ nb B c (sT B c t) = t := by
  unfold sT at h ⊢
  repeat' split
  all_goals first | omega | (simp only [*] at h; omega) | skip
  all_goals (simp_all)
theorem FX1_canGo_ok {N q : Nat} {s B : iv_M} {k r o : Int} (hN : 100 ≤ N) (hW : Wf B) (hF : FRc s q B) (h : isW B k r o) : FX1_canGo N s q (256 * k + 16 * r + o) = some (cnI B k r o) := by
  have hr2 := hW.1.2.2.2.2.2.1
  obtain ⟨r0, r1, hk⟩ := h
  obtain ⟨g1, g2, g3, g4, g5, g6, g7⟩ := hW.room r0 r1
  obtain ⟨e1, e2⟩ := hF.cell hW r0 r1
  obtain ⟨w1, w2, w3⟩ := wcode (k := k) (r := r) (o := o) (by omega) (by omega) r0 (by omega) (by omega) (by omega)
  unfold FX1_canGo
  rw [w1, w2, w3, rd_ok r0 (by omega), Option.bind_some, e1]
  rcases hk with ⟨rfl, o0, o1⟩ | ⟨rfl, o0, o1, hro⟩ | ⟨rfl, rfl⟩
  · rw [if_pos rfl, w32_id (x := 4 * _) (by omega) (by omega), w32_id (by omega) (by omega), rd_ok (by omega) (by omega), Option.bind_some, hF.2.2.2.2.2.1 _ _ g1 g2 o0 o1]
    by_cases e3 : nb B (B 116 r) o = -1
    · rw [if_pos e3]; simp [cnI, e3, FX1_canGo_b58, FX1_canGo_b59]
    · obtain ⟨t1, t2, _⟩ := nb_in hW.1 e3
      rw [if_neg e3, rd_ok t1 t2, Option.bind_some, hF.2.2.2.1 _ t1 t2]
      by_cases e4 : B 121 (nb B (B 116 r) o) = -1
      · rw [if_pos e4]; simp [cnI, e3, e4, FX1_canGo_b59]
      · rw [if_neg e4]; simp [cnI, e3, e4, FX1_canGo_b58, FX1_canGo_b59]
  · obtain ⟨e3, e4⟩ := hF.cell hW o0 o1
    rw [if_neg (by omega), if_neg (by omega), rd_ok o0 (by omega), Option.bind_some, e3, FX1_sideTo_ok hN hF g1 g2, Option.bind_some]
    by_cases e5 : sT B (B 116 r) (B 116 o) = -1
    · rw [if_pos e5]; simp [cnI, e5, FX1_canGo_b88]
    · rw [if_neg e5]; simp [cnI, e5, FX1_canGo_b83, FX1_canGo_b88]
  · rw [if_neg (by omega), if_pos rfl]; simp [cnI, FX1_canGo_b83, FX1_canGo_b88]
-- touching
theorem star_le (K : Int → Int → Int) (c : Int) : 0 ≤ star K c ∧ star K c ≤ 4 := by
  have := su_le (f := ek K c) (m := 1) 4 (fun i _ _ => bd_01 _ _)
  unfold star; omega
theorem st3_le (K : Int → Int → Int) (t d : Int) : 0 ≤ st3 K t d ∧ st3 K t d ≤ 4 := by
  have := su_le (f := fun k => if k = (d + 2) % 4 then 0 else ek K t k) (m := 1) 4 (fun i _ _ => by
    show 0 ≤ (if i = (d + 2) % 4 then 0 else ek K t i) ∧ (if i = (d + 2) % 4 then 0 else ek K t i) ≤ 1
    split
    · omega
    · exact bd_01 _ _)
  unfold st3; omega
def tch (B : iv_M) (c d : Int) : Int := star (kd B) c + (if d = -1 then 0 else st3 (kd B) (nb B c d) d)
theorem loop4 {L : Nat → Int → Int → Option Int} {g : Int → Int} (st : ∀ (n : Nat) (x i : Int), 0 ≤ i → i < 4 → 0 ≤ x → x < 100 → L (n + 1) x i = L n (x + g i) (i + 1)) (hg : ∀ i, 0 ≤ g i ∧ g i ≤ 1) (n : Nat) (x : Int) (x0 : 0 ≤ x) (x1 : x < 50) : L (n + 4) x 0 = L n (x + su g 4) 4 := by
  have h0 := hg 0
  have h1 := hg 1
  have h2 := hg 2
  have e0 : L (n + 4) x 0 = L (n + 3) (x + g 0) 1 := st (n + 3) x 0 (by omega) (by omega) (by omega) (by omega)
  have e1 : L (n + 3) (x + g 0) 1 = L (n + 2) (x + g 0 + g 1) 2 := st (n + 2) _ 1 (by omega) (by omega) (by omega) (by omega)
  have e2 : L (n + 2) (x + g 0 + g 1) 2 = L (n + 1) (x + g 0 + g 1 + g 2) 3 := st (n + 1) _ 2 (by omega) (by omega) (by omega) (by omega)
  have e3 : L (n + 1) (x + g 0 + g 1 + g 2) 3 = L n (x + g 0 + g 1 + g 2 + g 3) 4 := st n _ 3 (by omega) (by omega) (by omega) (by omega)
  rw [e0, e1, e2, e3, su4]
  congr 1; omega
theorem FX1_touching_ok {N q : Nat} {s B : iv_M} {c d : Int} (hN : 100 ≤ N) (hW : Wa B) (hc : Wc B) (hF : FRc s q B) (c0 : 0 ≤ c) (c1 : c < 16) (hd : d = -1 ∨ (0 ≤ d ∧ d < 4 ∧ nb B c d ≠ -1)) : FX1_touching N s q c d = some (tch B c d) := by
  unfold FX1_touching
  have st1 : ∀ (n : Nat) (x i : Int) (kx : Int → Option Int), 0 ≤ i → i < 4 → 0 ≤ x → x < 100 → FX1_touching_l5 N s q c d kx (n + 1) x i = FX1_touching_l5 N s q c d kx n (x + ek (kd B) c i) (i + 1) := by
    intro n x i kx i0 i1 x0 x1
    have hb := bd_01 (kd B c i) (gk (kd B) c i)
    rw [FX1_touching_l5, if_neg (by omega), FX1_border_ok hF hW c0 c1 i0 i1, Option.bind_some, ed_ek hW hc c0 c1 i0 i1, w32_id (by unfold ek; omega) (by unfold ek; omega), w32_id (by omega) (by omega)]
  have h5 : ∀ kx : Int → Option Int, FX1_touching_l5 N s q c d kx N 0 0 = kx (star (kd B) c) := by
    intro kx
    obtain ⟨M, hM⟩ : ∃ M, N = M + 5 := ⟨N - 5, by omega⟩
    rw [hM]
    rw [hM] at st1
    rw [loop4 (L := fun n x i => FX1_touching_l5 (M + 5) s q c d kx n x i) (g := ek (kd B) c) (fun n x i i0 i1 x0 x1 => st1 n x i kx i0 i1 x0 x1) (fun i => bd_01 _ _) (M + 1) 0 (by omega) (by omega), FX1_touching_l5, if_pos (by omega)]
    congr 1
    unfold star; omega
  rw [h5]
  have hst := star_le (kd B) c
  unfold tch FX1_touching_b46 FX1_touching_b92
  rcases hd with rfl | ⟨d0, d1, hd⟩
  · rw [if_pos rfl, if_pos rfl]
    obtain ⟨M, rfl⟩ : ∃ M, N = M + 5 := ⟨N - 5, by omega⟩
    rw [FX1_touching_l51, if_neg (by omega), if_pos rfl]; simp
  · obtain ⟨t1, t2, t3, t4, t5⟩ := nb_in hW hd
    rw [if_neg (by omega), if_neg (by omega), w32_id (x := 4 * c) (by omega) (by omega), w32_id (by omega) (by omega), rd_ok (by omega) (by omega), Option.bind_some, hF.2.2.2.2.2.1 c d c0 c1 d0 d1]
    generalize nb B c d = t at *
    have st2 : ∀ (n : Nat) (x i : Int) (kx : Int → Option Int), 0 ≤ i → i < 4 → 0 ≤ x → x < 100 → FX1_touching_l51 N s q d t kx (n + 1) x i = FX1_touching_l51 N s q d t kx n (x + (if i = (d + 2) % 4 then 0 else ek (kd B) t i)) (i + 1) := by
      intro n x i kx i0 i1 x0 x1
      have hb := bd_01 (kd B t i) (gk (kd B) t i)
      rw [FX1_touching_l51, if_neg (by omega), if_neg hd, bXo_2 d0 d1]
      unfold FX1_touching_b84
      by_cases e : i = (d + 2) % 4
      · rw [if_pos e, if_pos e, w32_id (by omega) (by omega), w32_id (by omega) (by omega)]
      · rw [if_neg e, if_neg e, FX1_border_ok hF hW t1 t2 i0 i1, Option.bind_some, ed_ek hW hc t1 t2 i0 i1, w32_id (by unfold ek; omega) (by unfold ek; omega), w32_id (by omega) (by omega)]
    have bb : ∀ i : Int, 0 ≤ (if i = (d + 2) % 4 then 0 else ek (kd B) t i) ∧ (if i = (d + 2) % 4 then 0 else ek (kd B) t i) ≤ 1 := by
      intro i; split
      · omega
      · exact bd_01 _ _
    obtain ⟨M, hM⟩ : ∃ M, N = M + 5 := ⟨N - 5, by omega⟩
    rw [hM]
    rw [hM] at st2
    rw [loop4 (L := fun n x i => FX1_touching_l51 (M + 5) s q d t _ n x i) (g := fun i => if i = (d + 2) % 4 then 0 else ek (kd B) t i) (fun n x i i0 i1 x0 x1 => st2 n x i _ i0 i1 x0 x1) bb (M + 1) _ (by omega) (by omega), FX1_touching_l51, if_pos (by omega)]
    rfl
