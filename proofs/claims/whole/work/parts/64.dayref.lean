-- BY DAY: the reference
def DG (s : iv_M) (P : DP) : Prop := s 113 66 = P.2.length ∧ (∀ j : Nat, j < P.2.length → s 161 j = P.2.getD j 0) ∧ ∀ i, 0 ≤ i → i < 192 → s 160 i = P.1 i
def Dg (s s' : iv_M) : Prop := (∀ a, a ≠ 113 → a ≠ 160 → a ≠ 161 → s' a = s a) ∧ ∀ i, i ≠ 66 → s' 113 i = s 113 i
theorem Dg.refl {s : iv_M} : Dg s s := ⟨fun _ _ _ _ => rfl, fun _ _ => rfl⟩
theorem Dg.trans {s s1 s2 : iv_M} (h : Dg s s1) (h2 : Dg s1 s2) : Dg s s2 := ⟨fun a x y z => (h2.1 a x y z).trans (h.1 a x y z), fun i x => (h2.2 i x).trans (h.2 i x)⟩
theorem Dg.eb {s s' : iv_M} (h : Dg s s') : Eb s s' := fun a a0 a1 => h.1 a (by omega) (by omega) (by omega)
theorem eb_td {s s' : iv_M} (h : Eb s s') : td s' = td s := by funext r d; unfold td; rw [eb_kd h, eb_kdn h, eb_nb h, h 116 (by omega) (by omega), h 121 (by omega) (by omega)]
theorem eb_ky {s s' : iv_M} (h : Eb s s') : ky s' = ky s := by funext r; unfold ky; rw [h 119 (by omega) (by omega)]
theorem FX12_comesIn_ok {N : Nat} {s B : iv_M} {P : DP} {r g v : Int} (hI : DI B P) (hC : DG s P) (hr : B 114 2 ≤ 12) (r0 : 0 ≤ r) (r1 : r < B 114 2) (g0 : 0 ≤ g) (g1 : g < 16) : ∃ s', FX12_comesIn N s 113 r g v = some s' ∧ DG s' (cme P (16 * r + g) v) ∧ Dg s s' := by
  obtain ⟨c1, c2, c3⟩ := hC
  have hl := DI_len hI
  unfold FX12_comesIn FX12_comesIn_b48 cme
  simp only [Nat.reduceAdd]
  rw [w32_id (x := 16 * r) (by omega) (by omega), w32_id (x := 16 * r + g) (by omega) (by omega), rd_ok (by omega) (by omega), Option.bind_some, c3 _ (by omega) (by omega)]
  by_cases e : P.1 (16 * r + g) = -1
  · have hlt := cd_lt (D := P.1) (i := 16 * r + g) (by omega) (by omega) e
    have h1 := hI.1
    rw [if_pos e, if_pos e, wr_ok (by omega) (by omega), Option.bind_some, mu_ne (by omega), c1, wr_ok (by omega) (by omega), Option.bind_some, pt_ok, Option.bind_some]
    simp (disch := omega) only [mu_ne]
    rw [c1, w32_id (by omega) (by omega)]
    refine ⟨_, rfl, ⟨?_, fun j hj => ?_, fun i i0 i1 => ?_⟩, ⟨fun a x y z => ?_, fun i x => ?_⟩⟩
    · rw [mu_eq, List.length_append]; simp
    · rw [List.length_append] at hj
      rw [mu_ne (by omega)]
      by_cases e2 : j = P.2.length
      · subst e2
        rw [mu_eq]
        have := gd_at (l := P.2) (t := []) (k := P.2.length) (d := 0) (x := 16 * r + g) rfl
        rw [List.append_nil] at this
        rw [this]
      · have hj : j < P.2.length := by simp at hj; omega
        rw [mu_ne (by omega), mu_ne (by omega), c2 j hj, gd_app hj]
    · show _ = if i = 16 * r + g then v else P.1 i
      rw [mu_ne (by omega), mu_ne (by omega)]
      by_cases e2 : i = 16 * r + g
      · rw [if_pos e2, e2, mu_eq]
      · rw [if_neg e2, mu_ne (by omega), c3 i i0 i1]
    · rw [mu_rw x, mu_rw z, mu_rw y]
    · rw [mu_ne (by omega), mu_ne (by omega), mu_ne (by omega)]
  · rw [if_neg e, if_neg e]; exact ⟨s, rfl, ⟨c1, c2, c3⟩, Dg.refl⟩
theorem FX12_bagAt_ok {N : Nat} {s : iv_M} {r g : Int} (hN : 100 ≤ N) : FX12_bagAt N s 113 r g = some (bOr g (kyb s r)) := by
  unfold FX12_bagAt
  rw [FX12_keysIn_ok hN, Option.bind_some, sr32_1]
  rfl
theorem FX12_day_st {N n : Nat} {s B : iv_M} {P : DP} {h x d : Int} {kx : iv_M → Option iv_M} (hN : 100 ≤ N) (hW : Wf B) (hE : Eb B s) (hI : DI B P) (hC : DG s P) (h0 : 0 ≤ h) (h1 : h < P.2.length) (hx : P.2.getD h.toNat 0 = x) (hx1 : P.1 x ≠ -1) (x0 : 0 ≤ x) (x1 : x < 16 * B 114 2) (d0 : 0 ≤ d) (d1 : d < 4) : ∃ s', FX12_goesByDay_l75 N 113 h (x / 16) (x % 16) kx (n + 1) s d = FX12_goesByDay_l75 N 113 h (x / 16) (x % 16) kx n s' (d + 1) ∧ DG s' (dst B x d P) ∧ Dg s s' := by
  have hr := hW.1.2.2.2.2.2.1
  have hl := DI_len hI
  have hW' := eb_Wf hE hW
  have e114 : s 114 = B 114 := hE 114 (by omega) (by omega)
  obtain ⟨g1, g2, g3, g4, g5, g6, g7⟩ := hW'.room (r := x / 16) (by omega) (by rw [e114]; omega)
  have hd := FX12_isDoorToDoor_ok (N := N) hW'.1 hW'.2.1 g1 g2 d0 d1 (by omega)
  rw [g3] at hd
  rw [FX12_goesByDay_l75, if_neg (by omega), FX12_faced_ok hW'.1 (by omega) (by omega) g1 g2 d0 d1, Option.bind_some, hd, Option.bind_some]
  unfold FX12_goesByDay_b162 dst
  rw [w32_id (x := d + 1) (by omega) (by omega), ← eb_td hE, ← eb_sd hE]
  by_cases e : kd s (s 116 (x / 16)) d = 1 ∧ kdn s (s 116 (x / 16)) d = 1
  · have et : td s (x / 16) d ≠ -1 := (td_iff hW').mpr e
    obtain ⟨t1, t2, t3, t4, t5, t6⟩ := td_room hW' et
    have hfc : fc s (x / 16) d = td s (x / 16) d := by rw [t4]; unfold fc; rw [if_neg t3]
    obtain ⟨j1, j2, j3, j4, j5, _⟩ := hW'.room t5 t6
    have s1 := sd_rng (d := d) hW'.1 (r := x / 16) (by omega) (by rw [e114]; omega)
    have s2 := sd_rng (d := (d + 2) % 4) hW'.1 t5 t6
    have t6' : td s (x / 16) d < B 114 2 := by rw [← e114]; exact t6
    rw [if_pos e, if_neg (by omega), (FX12_sideOf_ok (by omega) (by omega) g4 g5 d0 d1).2, Option.bind_some, opens_ok s1.1 s1.2, Option.bind_some, hfc, op2d d0 d1, (FX12_sideOf_ok t5 (by omega) j4 j5 (by omega) (by omega)).2, Option.bind_some, opens_ok s2.1 s2.2, Option.bind_some]
    by_cases o1 : opn (sd s (x / 16) d) (x % 16)
    · rw [if_pos o1, if_neg (by omega)]
      by_cases o2 : opn (sd s (td s (x / 16) d) ((d + 2) % 4)) (x % 16)
      · have k1 := ky_2 s (td s (x / 16) d)
        have k2 := or2_ok (a := x % 16) (b := kyb s (td s (x / 16) d)) (by omega) (by omega) k1.2.1 k1.2.2
        have hb := hI.2.2 x x0 (by omega)
        have hqh := hC.2.1 h.toNat (by omega)
        rw [Int.toNat_of_nonneg h0, hx] at hqh
        have hkb : kyb B (td s (x / 16) d) = kyb s (td s (x / 16) d) := by unfold kyb; rw [eb_ky hE]
        simp only [Nat.reduceAdd]
        rw [if_pos o2, if_neg (by omega), if_pos (show td s (x / 16) d ≠ -1 ∧ opn (sd s (x / 16) d) (x % 16) ∧ opn (sd s (td s (x / 16) d) ((d + 2) % 4)) (x % 16) from ⟨et, o1, o2⟩), FX12_bagAt_ok hN, Option.bind_some, rd_ok h0 (by omega), Option.bind_some, hqh, rd_ok (by omega) (by omega), Option.bind_some, hC.2.2 x x0 (by omega), w32_id (x := P.1 x + 1) (by omega) (by omega), hkb]
        obtain ⟨s', a1, a2, a3⟩ := FX12_comesIn_ok (N := N) (v := P.1 x + 1) hI hC hr t5 t6' k2.2.1 k2.2.2
        rw [a1, Option.bind_some]
        exact ⟨s', rfl, a2, a3⟩
      · rw [if_neg o2, if_pos rfl, if_neg (fun z => o2 z.2.2)]; exact ⟨s, rfl, hC, Dg.refl⟩
    · rw [if_neg o1, if_pos rfl, if_neg (fun z => o1 z.2.1)]; exact ⟨s, rfl, hC, Dg.refl⟩
  · rw [if_neg e, if_pos rfl, if_neg (fun z => e ((td_iff hW').mp z.1))]; exact ⟨s, rfl, hC, Dg.refl⟩
theorem FX12_day_in {N : Nat} {s B : iv_M} {P : DP} {h x : Int} {kx : iv_M → Option iv_M} (hN : 100 ≤ N) (hW : Wf B) (hE : Eb B s) (hI : DI B P) (hQ : DQ P) (hC : DG s P) (h0 : 0 ≤ h) (h1 : h < P.2.length) (hx : P.2.getD h.toNat 0 = x) (hx1 : P.1 x ≠ -1) (x0 : 0 ≤ x) (x1 : x < 16 * B 114 2) : ∃ s', FX12_goesByDay_l75 N 113 h (x / 16) (x % 16) kx N s 0 = kx s' ∧ DG s' (dal B x P) ∧ Dg s s' := by
  have gl : ∀ (P' : DP) (t : List Int), P'.2 = P.2 ++ t → h < P'.2.length ∧ P'.2.getD h.toNat 0 = x := by
    intro P' t e
    rw [e, List.length_append]
    exact ⟨by simp; omega, by rw [gd_app (by omega)]; exact hx⟩
  obtain ⟨M, hM⟩ : ∃ M, N = M + 5 := ⟨N - 5, by omega⟩
  obtain ⟨s1, a1, a2, a3⟩ := FX12_day_st (n := M + 4) (kx := kx) (d := 0) hN hW hE hI hC h0 h1 hx hx1 x0 x1 (by omega) (by omega)
  obtain ⟨p1, p2, p3, t1, p4⟩ := dst_pres (d := 0) hW hI hQ hx1 x0 x1
  obtain ⟨s2, b1, b2, b3⟩ := FX12_day_st (n := M + 3) (kx := kx) (d := 1) hN hW (hE.trans a3.eb) p1 a2 h0 (gl _ _ p4).1 (gl _ _ p4).2 (by rw [p3]; exact hx1) x0 x1 (by omega) (by omega)
  obtain ⟨q1, q2, q3, t2, q4⟩ := dst_pres (d := 1) hW p1 p2 (by rw [p3]; exact hx1) x0 x1
  have q5 : (dst B x 1 (dst B x 0 P)).2 = P.2 ++ (t1 ++ t2) := by rw [q4, p4, List.append_assoc]
  obtain ⟨s3, c1, c2, c3⟩ := FX12_day_st (n := M + 2) (kx := kx) (d := 2) hN hW ((hE.trans a3.eb).trans b3.eb) q1 b2 h0 (gl _ _ q5).1 (gl _ _ q5).2 (by rw [q3, p3]; exact hx1) x0 x1 (by omega) (by omega)
  obtain ⟨r1, r2, r3, t3, r4⟩ := dst_pres (d := 2) hW q1 q2 (by rw [q3, p3]; exact hx1) x0 x1
  have r5 : (dst B x 2 (dst B x 1 (dst B x 0 P))).2 = P.2 ++ (t1 ++ t2 ++ t3) := by rw [r4, q5, List.append_assoc]
  obtain ⟨s4, d1, d2, d3⟩ := FX12_day_st (n := M + 1) (kx := kx) (d := 3) hN hW (((hE.trans a3.eb).trans b3.eb).trans c3.eb) r1 c2 h0 (gl _ _ r5).1 (gl _ _ r5).2 (by rw [r3, q3, p3]; exact hx1) x0 x1 (by omega) (by omega)
  refine ⟨s4, ?_, d2, ((a3.trans b3).trans c3).trans d3⟩
  rw [show M + 4 + 1 = N by omega] at a1
  refine (a1.trans (b1.trans (c1.trans d1))).trans ?_
  rw [FX12_goesByDay_l75, if_pos (by omega)]
theorem FX12_day_out {N : Nat} {B : iv_M} {kx : iv_M → Option iv_M} (hN : 1000 ≤ N) (hW : Wf B) : ∀ (k n : Nat) (h : Nat) (s : iv_M) (P : DP), Eb B s → DI B P → DQ P → DG s P → h ≤ P.2.length → 192 < k + h → 192 < n + h → ∃ s', FX12_goesByDay_l43 N 113 kx n s h = kx s' ∧ DG s' (spr B k h P) ∧ Dg s s' := by
  intro k
  induction k with
  | zero => intro n h s P hH hI hQ hC hh h1 h2; have := DI_len hI; omega
  | succ k ih =>
    intro n h s P hE hI hQ hC hh h1 h2
    have hl := DI_len hI
    obtain ⟨n, rfl⟩ : ∃ m, n = m + 1 := ⟨n - 1, by omega⟩
    rw [FX12_goesByDay_l43, hC.1]
    unfold spr
    by_cases e : h < P.2.length
    · have hm := gd_mem (d := 0) e
      have hx := hI.2.1 _ hm
      have hx1 := hQ _ hm
      have hr := hW.1.2.2.2.2.2.1
      simp only [Nat.reduceAdd]
      rw [if_pos e, if_neg (by omega), rd_ok (by omega) (by omega), Option.bind_some, Option.bind_some, hC.2.1 h e]
      obtain ⟨s', a1, a2, a3⟩ := FX12_day_in (N := N) (kx := fun (s_3903 : iv_M) => (FX12_goesByDay_l43 N 113 kx n s_3903 (w32 ((h : Int) + 1)))) (h := (h : Int)) (by omega) hW hE hI hQ hC (by omega) (by omega) (by rw [Int.toNat_natCast]) hx1 hx.1 hx.2
      generalize hg : P.2.getD h 0 = x at *
      obtain ⟨p1, p2, t, p3⟩ := dal_pres hW hI hQ hx1 hx.1 hx.2
      rw [dv32_pos (by omega) (by omega) (by omega), tmod_pos (by omega), a1, w32_id (by omega) (by omega)]
      obtain ⟨s2, b1, b2, b3⟩ := ih n (h + 1) s' (dal B x P) (hE.trans a3.eb) p1 p2 a2 (by rw [p3, List.length_append]; omega) (by omega) (by omega)
      exact ⟨s2, b1, b2, a3.trans b3⟩
    · rw [if_neg e, if_pos (by omega)]; exact ⟨s, rfl, hC, Dg.refl⟩
theorem FX12_goesByDay_ok {N : Nat} {s : iv_M} {r : Int} (hN : 1000 ≤ N) (hW : Wf s) (r0 : 0 ≤ r) (r1 : r < s 114 2) : ∃ s', FX12_goesByDay N s 113 r = some s' ∧ DG s' (dyA s r) ∧ Dg s s' := by
  have hr := hW.1.2.2.2.2.2.1
  have k1 := ky_2 s r
  unfold FX12_goesByDay dyA
  have lp : ∀ kx : iv_M → Option iv_M, FX12_goesByDay_l2 N 113 r kx N s 0 = kx (flM s 160 192 (-1)) := by
    intro kx
    obtain ⟨z, e1, e2⟩ := loop_up (L := fun m x i => FX12_goesByDay_l2 N 113 r kx m x i) (k := fun x => kx x) (hi := 192) (fun i x => x = flM s 160 i (-1) ∧ 0 ≤ i) (fun m x hx => by
      show FX12_goesByDay_l2 N 113 r kx (m + 1) x 192 = _
      rw [FX12_goesByDay_l2, if_pos (by omega)]) (fun m i x hx hi => by
      refine ⟨mu x 160 i (-1), ?_, ?_, by omega⟩
      · show FX12_goesByDay_l2 N 113 r kx (m + 1) x i = FX12_goesByDay_l2 N 113 r kx m (mu x 160 i (-1)) (i + 1)
        rw [FX12_goesByDay_l2, if_neg (by omega)]
        simp only [Nat.reduceAdd]
        rw [wr_ok hx.2 hi, Option.bind_some, w32_id (by omega) (by omega)]
      · rw [hx.1]
        funext a j
        unfold mu flM
        by_cases e : a = 160 ∧ j = i
        · rw [if_pos e, if_pos (by omega)]
        · rw [if_neg e]
          by_cases e2 : a = 160 ∧ 0 ≤ j ∧ j < i
          · rw [if_pos e2, if_pos (by omega)]
          · rw [if_neg e2, if_neg (by omega)]) N 0 s ⟨by funext a j; unfold flM; rw [if_neg (by omega)], by omega⟩ (by omega) (by omega)
    rw [← e1.1]; exact e2
  rw [lp, pt_ok, Option.bind_some]
  have f0 : Dg s (mu (flM s 160 192 (-1)) 113 66 0) := ⟨fun a x y z => by rw [mu_rw x]; funext j; exact fl_ne y, fun i x => by rw [mu_ne (by omega), fl_ne (by omega)]⟩
  have c0 : DG (mu (flM s 160 192 (-1)) 113 66 0) (fun _ => -1, []) := ⟨mu_eq, fun j hj => by simp at hj, fun i i0 i1 => by rw [mu_ne (by omega), fl_eq (by omega) (by omega)]⟩
  have hkb : kyb (mu (flM s 160 192 (-1)) 113 66 0) r = kyb s r := by unfold kyb; rw [eb_ky f0.eb]
  rw [FX12_bagAt_ok (by omega), Option.bind_some, hkb]
  have hor : bOr 0 (kyb s r) = kyb s r := by
    obtain ⟨k, hk⟩ := Int.eq_ofNat_of_zero_le k1.2.1
    rw [hk]
    have := bOr_nat (a := 0) (b := k) (by omega) (by omega)
    rw [Nat.zero_or] at this; exact this
  rw [hor]
  obtain ⟨s1, a1, a2, a3⟩ := FX12_comesIn_ok (N := N) (v := 0) (DI_0 (B := s)) c0 hr r0 r1 k1.2.1 k1.2.2
  rw [a1, Option.bind_some]
  have i1 : DI s (cme (fun _ => -1, []) (16 * r + kyb s r) 0) := DI_cme DI_0 (by omega) (by omega) hr (by omega) (by simp)
  have q1 : DQ (cme (fun _ => -1, []) (16 * r + kyb s r) 0) := DQ_cme (fun x hx => (by cases hx)) (by omega)
  obtain ⟨s2, b1, b2, b3⟩ := FX12_day_out (N := N) (B := s) (kx := fun (s_3893 : iv_M) => some s_3893) hN hW 200 N 0 s1 _ (f0.eb.trans a3.eb) i1 q1 a2 (by omega) (by omega) (by omega)
  exact ⟨s2, b1, b2, (f0.trans a3).trans b3⟩
theorem spr_pres {B : iv_M} (hW : Wf B) : ∀ (k h : Nat) (P : DP), DI B P → DQ P → DI B (spr B k h P) ∧ DQ (spr B k h P) := by
  intro k
  induction k with
  | zero => intro h P hI hQ; exact ⟨hI, hQ⟩
  | succ k ih =>
    intro h P hI hQ
    unfold spr
    by_cases e : h < P.2.length
    · rw [if_pos e]
      have hm := gd_mem (d := 0) e
      have hx := hI.2.1 _ hm
      obtain ⟨p1, p2, t, p3⟩ := dal_pres hW hI hQ (hQ _ hm) hx.1 hx.2
      exact ih (h + 1) _ p1 p2
    · rw [if_neg e]; exact ⟨hI, hQ⟩
theorem dyA_ok {B : iv_M} {r : Int} (hW : Wf B) (r0 : 0 ≤ r) (r1 : r < B 114 2) : DI B (dyA B r) ∧ DQ (dyA B r) := by
  have hr := hW.1.2.2.2.2.2.1
  have k1 := ky_2 B r
  exact spr_pres hW 200 0 _ (DI_cme DI_0 (by omega) (by omega) hr (by omega) (by simp)) (DQ_cme (fun x hx => (by cases hx)) (by omega))
-- answers
def fwl (D : Int → Int) (r : Int) : List Int → Int
  | [] => -2
  | x :: xs => if x / 16 = r then D x else fwl D r xs
def rrl : List Int → Int → Int
  | [], a => a
  | x :: xs, a => rrl xs (bOr a (sl32 1 (x / 16)))
def rkl : List Int → Int → Int
  | [], a => a
  | x :: xs, a => rkl xs (bOr a (2 * (x % 16)))
theorem drop_cons {l : List Int} {j : Nat} (h : j < l.length) : l.drop j = l.getD j 0 :: l.drop (j + 1) := by
  rw [List.drop_eq_getElem_cons h, List.getD_eq_getElem?_getD, List.getElem?_eq_getElem h]; rfl
theorem FX0_fewest_ok {N : Nat} {s B : iv_M} {P : DP} {r : Int} (hN : 1000 ≤ N) (hI : DI B P) (hr : B 114 2 ≤ 12) (hC : DC s P) : FX0_fewest N s 98 r = some (fwl P.1 r P.2) := by
  have hl := DI_len hI
  have main : ∀ (n j : Nat), j ≤ P.2.length → P.2.length - j < n → FX0_fewest_l2 N s 98 r (fun (_ : Unit) => (some (-2))) n j = some (fwl P.1 r (P.2.drop j)) := by
    intro n
    induction n with
    | zero => intro j h1 h2; omega
    | succ n ih =>
      intro j h1 h2
      rw [FX0_fewest_l2, hC.1]
      by_cases e : j < P.2.length
      · have hx := hI.2.1 _ (gd_mem (d := 0) e)
        have hq := hC.2.1 j e
        rw [if_neg (by omega)]
        simp only [Nat.reduceAdd]
        rw [rd_ok (by omega) (by omega), Option.bind_some, Option.bind_some, hq, dv32_pos (by omega) (by omega) (by omega), show 2 * P.2.getD j 0 / 32 = P.2.getD j 0 / 16 by omega, rd_ok (by omega) (by omega), Option.bind_some, hC.2.2 _ hx.1 (by omega), w32_id (by omega) (by omega), drop_cons e]
        show _ = some (if P.2.getD j 0 / 16 = r then P.1 (P.2.getD j 0) else fwl P.1 r (P.2.drop (j + 1)))
        by_cases e2 : P.2.getD j 0 / 16 = r
        · rw [if_pos e2, if_pos e2]
        · rw [if_neg e2, if_neg e2]; exact ih (j + 1) (by omega) (by omega)
      · rw [if_pos (by omega), List.drop_eq_nil_of_le (by omega)]; rfl
  have := main N 0 (by omega) (by omega)
  rw [List.drop_zero] at this; exact this
theorem FX12_steps_lp {N : Nat} {s B : iv_M} {P : DP} {r : Int} (hN : 1000 ≤ N) (hI : DI B P) (hr : B 114 2 ≤ 12) (hC : DG s P) : FX12_steps_l25 N 113 r (fun (s_3926 : iv_M) => (some ((-2), s_3926))) N s 0 = some (fwl P.1 r P.2, s) := by
  have hl := DI_len hI
  have main : ∀ (n j : Nat), j ≤ P.2.length → P.2.length - j < n → FX12_steps_l25 N 113 r (fun (s_3926 : iv_M) => (some ((-2), s_3926))) n s j = some (fwl P.1 r (P.2.drop j), s) := by
    intro n
    induction n with
    | zero => intro j h1 h2; omega
    | succ n ih =>
      intro j h1 h2
      rw [FX12_steps_l25, hC.1]
      by_cases e : j < P.2.length
      · have hx := hI.2.1 _ (gd_mem (d := 0) e)
        have hq := hC.2.1 j e
        rw [if_neg (by omega)]
        simp only [Nat.reduceAdd]
        rw [rd_ok (by omega) (by omega), Option.bind_some, Option.bind_some, hq, dv32_pos (by omega) (by omega) (by omega), rd_ok (by omega) (by omega), Option.bind_some, hC.2.2 _ hx.1 (by omega), w32_id (by omega) (by omega), drop_cons e]
        show _ = some (if P.2.getD j 0 / 16 = r then P.1 (P.2.getD j 0) else fwl P.1 r (P.2.drop (j + 1)), s)
        by_cases e2 : P.2.getD j 0 / 16 = r
        · rw [if_pos e2, if_pos e2]
        · rw [if_neg e2, if_neg e2]; exact ih (j + 1) (by omega) (by omega)
      · rw [if_pos (by omega), List.drop_eq_nil_of_le (by omega)]; rfl
  have := main N 0 (by omega) (by omega)
  rw [List.drop_zero] at this; exact this
theorem FX0_reached_ok {N : Nat} {s B : iv_M} {P : DP} (hN : 1000 ≤ N) (hI : DI B P) (hr : B 114 2 ≤ 12) (hC : DC s P) : FX0_reachedRooms N s 98 = some (rrl P.2 0) ∧ FX0_reachedKeys N s 98 = some (rkl P.2 0) := by
  have hl := DI_len hI
  have main : ∀ (n j : Nat) (a : Int), j ≤ P.2.length → P.2.length - j < n → FX0_reachedRooms_l4 N s 98 (fun (x72_1 : Int) => (some x72_1)) n a j = some (rrl (P.2.drop j) a) ∧ FX0_reachedKeys_l4 N s 98 (fun (x76_1 : Int) => (some x76_1)) n a j = some (rkl (P.2.drop j) a) := by
    intro n
    induction n with
    | zero => intro j a h1 h2; omega
    | succ n ih =>
      intro j a h1 h2
      rw [FX0_reachedRooms_l4, FX0_reachedKeys_l4, hC.1]
      by_cases e : j < P.2.length
      · have hx := hI.2.1 _ (gd_mem (d := 0) e)
        have hq := hC.2.1 j e
        rw [if_neg (by omega), if_neg (by omega)]
        simp only [Nat.reduceAdd]
        rw [rd_ok (by omega) (by omega), Option.bind_some, Option.bind_some, hq, dv32_pos (by omega) (by omega) (by omega), tmod_pos (by omega), show 2 * P.2.getD j 0 / 32 = P.2.getD j 0 / 16 by omega, show 2 * P.2.getD j 0 % 32 = 2 * (P.2.getD j 0 % 16) by omega, w32_id (by omega) (by omega), drop_cons e]
        exact ⟨(ih (j + 1) _ (by omega) (by omega)).1, (ih (j + 1) _ (by omega) (by omega)).2⟩
      · rw [if_pos (by omega), if_pos (by omega), List.drop_eq_nil_of_le (by omega)]; exact ⟨rfl, rfl⟩
  have := main N 0 0 (by omega) (by omega)
  rw [List.drop_zero] at this; exact this
theorem FX12_reach_lp {N : Nat} {s B : iv_M} {P : DP} {x2 : Int} {kx : iv_M → Int → Int → Option (Int × iv_M)} (hN : 1000 ≤ N) (hI : DI B P) (hr : B 114 2 ≤ 12) (hC : DG s P) : FX12_reach_l33 N 113 x2 kx N s 0 0 0 = kx s (rrl P.2 0) (rkl P.2 0) := by
  have hl := DI_len hI
  have main : ∀ (n j : Nat) (a b : Int), j ≤ P.2.length → P.2.length - j < n → FX12_reach_l33 N 113 x2 kx n s a b j = kx s (rrl (P.2.drop j) a) (rkl (P.2.drop j) b) := by
    intro n
    induction n with
    | zero => intro j a b h1 h2; omega
    | succ n ih =>
      intro j a b h1 h2
      rw [FX12_reach_l33, hC.1]
      by_cases e : j < P.2.length
      · have hx := hI.2.1 _ (gd_mem (d := 0) e)
        have hq := hC.2.1 j e
        rw [if_neg (by omega)]
        simp only [Nat.reduceAdd]
        have hsl : sl32 (P.2.getD j 0 % 16) 1 = 2 * (P.2.getD j 0 % 16) := by
          have := sl32_lit (x := P.2.getD j 0 % 16) (k := 1) (by decide) (by omega) (by omega)
          exact this.trans (by omega)
        rw [rd_ok (by omega) (by omega), Option.bind_some, Option.bind_some, hq, dv32_pos (by omega) (by omega) (by omega), tmod_pos (by omega), hsl, w32_id (by omega) (by omega), drop_cons e]
        exact ih (j + 1) _ _ (by omega) (by omega)
      · rw [if_pos (by omega), List.drop_eq_nil_of_le (by omega)]; rfl
  have := main N 0 0 0 (by omega) (by omega)
  rw [List.drop_zero] at this; exact this
