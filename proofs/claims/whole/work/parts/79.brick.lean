-- BRICKS, AND ROOMS THAT ARE FIXED
theorem bit_flip {x r i : Int} (x0 : 0 ≤ x) (x1 : x < 4096) (r0 : 0 ≤ r) (r1 : r < 12) (i0 : 0 ≤ i) : (0 ≤ bXo x (sl32 1 r) ∧ bXo x (sl32 1 r) < 4096) ∧ bXo x (sl32 1 r) / 2 ^ i.toNat % 2 = if i = r then 1 - x / 2 ^ r.toNat % 2 else x / 2 ^ i.toNat % 2 := by
  obtain ⟨x, rfl⟩ := Int.eq_ofNat_of_zero_le x0
  obtain ⟨r, rfl⟩ := Int.eq_ofNat_of_zero_le r0
  obtain ⟨i, rfl⟩ := Int.eq_ofNat_of_zero_le i0
  have hp : (2 : Nat) ^ r < 2 ^ 12 := Nat.pow_lt_pow_right (by decide) (by omega)
  rw [sl32_1 (by omega) (by omega), Int.toNat_natCast, Int.toNat_natCast, bXo_nat (by omega) (by omega)]
  have hx : x ^^^ 2 ^ r < 2 ^ 12 := Nat.xor_lt_two_pow (by omega) hp
  refine ⟨by omega, ?_⟩
  have e1 : ((x ^^^ 2 ^ r : Nat) : Int) / 2 ^ i % 2 = (((x ^^^ 2 ^ r) / 2 ^ i % 2 : Nat) : Int) := by
    rw [Int.natCast_emod, Int.natCast_ediv, Int.natCast_pow]; rfl
  have e2 : ∀ j : Nat, (x : Int) / 2 ^ j % 2 = ((x / 2 ^ j % 2 : Nat) : Int) := fun j => by
    rw [Int.natCast_emod, Int.natCast_ediv, Int.natCast_pow]; rfl
  rw [e1, e2, e2, ← Nat.toNat_testBit, ← Nat.toNat_testBit, ← Nat.toNat_testBit, Nat.testBit_xor, Nat.testBit_two_pow]
  by_cases h : r = i
  · subst h
    rw [if_pos rfl]
    cases Nat.testBit x r <;> simp
  · rw [if_neg (by omega)]
    simp [h]
theorem brick_fr {s B B' : iv_M} {q : Nat} {r d v : Int} (hF : FRc s q B) (hP : FP s q B) (hW : Wf B) (r0 : 0 ≤ r) (r1 : r < B 114 2) (h0 : B' 114 0 = B 114 0) (h1 : B' 114 1 = B 114 1) (h2 : B' 114 2 = B 114 2) (h5 : ∀ j, B' 115 j = if j = 4 * r + (d - B 117 r) % 4 then v else B 115 j) (h6 : B' 116 = B 116) (h7 : B' 117 = B 117) (h21 : B' 121 = B 121) : FRc (putM (mu s (q + 4) (4 * r + (d - B 117 r) % 4) v) q r (B 116 r) (B 117 r)) q B' ∧ FP (putM (mu s (q + 4) (4 * r + (d - B 117 r) % 4) v) q r (B 116 r) (B 117 r)) q B' := by
  obtain ⟨g1, g2, g3, g4, g5, g6, g7⟩ := hW.room r0 r1
  have un : ∀ c, 0 ≤ c → c < 16 → c ≠ B 116 r → B 121 c ≠ r := fun c c0 c1 hc e => by
    rcases hW.2.1 c c0 c1 with z | z
    · omega
    · rw [e] at z; exact hc z.2.2.1.symm
  have hx : FRx (fun c => c = B 116 r) (mu s (q + 4) (4 * r + (d - B 117 r) % 4) v) q B' := by
    obtain ⟨f0, f1, f2, f3, f4, f5, f6, f7⟩ := hF
    refine ⟨by rw [mu_ne (by omega), f0, h0], by rw [mu_ne (by omega), f1, h1], by rw [mu_ne (by omega), f2, h2], fun c c0 c1 hx => by rw [mu_ne (by omega), f3 c c0 c1, h21], fun c d' c0 c1 d0 d1 hx => ?_, fun c d' c0 c1 d0 d1 => by rw [mu_ne (by omega), f5 c d' c0 c1 d0 d1, nb_ext h0 h1], fun j j0 j1 => ?_, fun c c0 c1 hx hn => ?_⟩
    · rw [mu_ne (by omega), f4 c d' c0 c1 d0 d1]
      unfold kd sd
      rw [h21, h7]
      by_cases e : B 121 c = -1
      · rw [if_pos e, if_pos e]
      · have hu := un c c0 c1 hx
        rw [if_neg e, if_neg e, h5, if_neg (by omega)]
    · rw [h5]
      by_cases e : j = 4 * r + (d - B 117 r) % 4
      · rw [if_pos e, e, mu_eq]
      · rw [if_neg e, mu_ne (by omega), f6 j j0 (by omega)]
    · rw [h21] at hn ⊢
      rw [h7, mu_ne (by omega), mu_ne (by omega)]
      exact f7 c c0 c1 hn
  have hp := put_fr (r := r) (c := B 116 r) (t := B 117 r) hx ⟨r0, by omega⟩ (by rw [h21]; exact g3) (by rw [h7]) (fun c' c0 c1 _ hne => by rw [h21]; exact un c' c0 c1 hne) g4 g5
  refine ⟨FRx_c hp (fun c _ _ z => z.2 z.1), put_fp (FP_ext (mu_rw (by omega)) hP) hW r0 r1 g1 g2 g4 g5 h2 (fun i => ?_) (fun i => ?_)⟩
  · rw [h6]; split
    · next e => rw [e]
    · rfl
  · rw [h7]; split
    · next e => rw [e]
    · rfl
theorem ct_brick {t : Int} {N : Nat} {s : iv_M} {x y z : Int} (hN : 1000 ≤ N) (h : Inv t s) (t0 : 0 ≤ t) (t1 : t ≤ 1000) : ∃ a s1 s2, FX11_brick N s 0 x y z = some (a, s1) ∧ FX12_brick N s1 113 x y z = some (a, s2) ∧ Inv (t + 1) s2 := by
  have hI := h
  obtain ⟨h1, ⟨hr1, ⟨hF, hP⟩, hK, hH4, _⟩, ⟨hW, ⟨pp, _⟩, hw2⟩, _, _, _, _, _, h9, h10⟩ := h
  obtain ⟨n1, n2, n3⟩ := now_ne h1
  have hq : (s 0 4).toNat = now s := rfl
  have hQ := HQ_TF (now_HQ h1).1
  have hB := hr1.2.1
  have h15 := h9.1
  have hr2 := hW.1.2.2.2.2.2.1
  by_cases C : (0 ≤ x ∧ x < s 114 2) ∧ (0 ≤ y ∧ y ≤ 3) ∧ (0 ≤ z ∧ z ≤ 6) ∧ sd s x y ≠ z
  · obtain ⟨c1, c2, c3, c4⟩ := C
    obtain ⟨g1, g2, g3, g4, g5, g6, g7⟩ := hW.room c1.1 c1.2
    obtain ⟨k1, k2⟩ := hF.cell hW c1.1 c1.2
    have hsp : 0 ≤ 4 * x + (y - s 117 x) % 4 ∧ 4 * x + (y - s 117 x) % 4 < 48 := by omega
    have fr := brick_fr (d := y) (v := z) hF hP hW c1.1 c1.2 (B' := mu (mu s 115 (4 * x + (y - s 117 x) % 4) z) 114 7 0) (by simp (disch := omega) only [mu_ne]) (by simp (disch := omega) only [mu_ne]) (by simp (disch := omega) only [mu_ne]) (fun j => by
      rw [mu_ne (by omega)]
      by_cases e : j = 4 * x + (y - s 117 x) % 4
      · rw [if_pos e, e, mu_eq]
      · rw [if_neg e, mu_ne (by omega)]) (by simp (disch := omega) only [mu_rw]) (by simp (disch := omega) only [mu_rw]) (by simp (disch := omega) only [mu_rw])
    have hc : FX11_brick N s 0 x y z = some (sd s x y, mu (mu (mu (putM (mu s (now s + 1 + 4) (4 * x + (y - s 117 x) % 4) z) (now s + 1) x (s 116 x) (s 117 x)) (now s + 10) 1 0) (now s + 12) 1 0) 0 15 (s 0 15 + 1)) := by
      unfold FX11_brick
      rw [hq, FX2_isRoom_ok hF, Option.bind_some, if_pos c1, if_neg (by omega), if_neg (by omega), if_neg (by omega), if_neg (by omega), if_pos (by omega), FX1_sortOf_ok hF hW c1.1 c1.2 c2.1 (by omega), Option.bind_some, if_neg c4]
      unfold FX1_setSort
      rw [rd_ok c1.1 (by omega), Option.bind_some, k2, bAn_3, w32_id (x := y - s 117 x) (by omega) (by omega), w32_id (x := 4 * x) (by omega) (by omega), w32_id (by omega) (by omega), wr_ok hsp.1 hsp.2, Option.bind_some, rd_ok c1.1 (by omega), Option.bind_some, rd_ok c1.1 (by omega), Option.bind_some, mu_ne (by omega), mu_ne (by omega), k1, k2, FX1_put_ok (by omega) hQ.1.2.2.1 c1.1 (by omega) g1 g2 g4 g5, Option.bind_some, Option.bind_some, day_ok (q := now s) (by rw [pm_out (by omega), mu_ne (by omega)]; rfl) n2 (by rw [pm_out (by omega), mu_ne (by omega)]; omega) (by rw [pm_out (by omega), mu_ne (by omega)]; omega), Option.bind_some, pm_out (by omega), mu_ne (by omega)]
    refine ⟨_, _, mu (mu (mu (mu (mu (putM (mu s (now s + 1 + 4) (4 * x + (y - s 117 x) % 4) z) (now s + 1) x (s 116 x) (s 117 x)) (now s + 10) 1 0) (now s + 12) 1 0) 0 15 (s 0 15 + 1)) 115 (4 * x + (y - s 117 x) % 4) z) 114 7 0, hc, ?_, ?_⟩
    · generalize hs1 : mu (mu (mu (putM (mu s (now s + 1 + 4) (4 * x + (y - s 117 x) % 4) z) (now s + 1) x (s 116 x) (s 117 x)) (now s + 10) 1 0) (now s + 12) 1 0) 0 15 (s 0 15 + 1) = s1
      have e : ∀ a, 114 ≤ a → a ≤ 131 → s1 a = s a := fun a a0 a1 => by
        rw [← hs1, mu_rw (by omega), mu_rw (by omega), mu_rw (by omega)]
        funext i
        rw [pm_out (by omega), mu_ne (by omega)]
      have hW1 : Wf s1 := eb_Wf e hW
      have hsd : sd s1 = sd s := eb_sd e
      unfold FX12_brick
      obtain ⟨o1, o2⟩ := FX12_sideOf_ok (N := N) (s := s1) (r := x) (d := y) c1.1 (by omega) (by rw [e 117 (by omega) (by omega)]; exact g4) (by rw [e 117 (by omega) (by omega)]; exact g5) c2.1 (by omega)
      rw [FX12_isRoom_ok hW1.1, Option.bind_some, if_pos (show 0 ≤ x ∧ x < s1 114 2 by rw [e 114 (by omega) (by omega)]; exact c1), if_neg (by omega), FX12_in_ok, Option.bind_some, if_pos c2, if_neg (by omega), FX12_in_ok, Option.bind_some, if_pos c3, if_neg (by omega), o2, Option.bind_some, hsd, if_neg c4, Option.bind_some, o1, Option.bind_some, e 117 (by omega) (by omega), wr_ok hsp.1 hsp.2, Option.bind_some, wr_ok (by omega) (by omega), Option.bind_some]
    · have hO : OZ (mu (mu (mu (mu (mu (putM (mu s (now s + 1 + 4) (4 * x + (y - s 117 x) % 4) z) (now s + 1) x (s 116 x) (s 117 x)) (now s + 10) 1 0) (now s + 12) 1 0) 0 15 (s 0 15 + 1)) 115 (4 * x + (y - s 117 x) % 4) z) 114 7 0) := by
        refine OZ_mu (OZ_mu (OZ_mu (OZ_mu (OZ_mu (fun a a0 a1 i hi => ?_) (fun z => by omega)) (fun z => by omega)) (fun z => by omega)) (fun _ _ => by unfold ln; simp; omega)) (fun _ _ => by unfold ln; simp)
        rw [pm_out (by omega), mu_ne (by omega)]; exact h10 a a0 a1 i hi
      have ro : ∀ a, a ≠ 0 → (a < now s + 1 ∨ now s + 6 < a) → a ≠ now s + 10 → a ≠ now s + 12 → a ≠ 114 → a ≠ 115 → mu (mu (mu (mu (mu (putM (mu s (now s + 1 + 4) (4 * x + (y - s 117 x) % 4) z) (now s + 1) x (s 116 x) (s 117 x)) (now s + 10) 1 0) (now s + 12) 1 0) 0 15 (s 0 15 + 1)) 115 (4 * x + (y - s 117 x) % 4) z) 114 7 0 a = s a := fun a z0 z1 z2 z3 z4 z5 => by
        rw [mu_rw z4, mu_rw z5, mu_rw z0, mu_rw z3, mu_rw z2]
        funext i
        rw [pm_out (by omega), mu_ne (by omega)]
      have fl : ∀ a, now s + 1 ≤ a → a ≤ now s + 7 → mu (mu (mu (mu (mu (putM (mu s (now s + 1 + 4) (4 * x + (y - s 117 x) % 4) z) (now s + 1) x (s 116 x) (s 117 x)) (now s + 10) 1 0) (now s + 12) 1 0) 0 15 (s 0 15 + 1)) 115 (4 * x + (y - s 117 x) % 4) z) 114 7 0 a = putM (mu s (now s + 1 + 4) (4 * x + (y - s 117 x) % 4) z) (now s + 1) x (s 116 x) (s 117 x) a := fun a z0 z1 => by
        rw [mu_rw (by omega), mu_rw (by omega), mu_rw (by omega), mu_rw (by omega), mu_rw (by omega)]
      have b114 : ∀ j, j ≠ 7 → mu (mu (mu (mu (mu (putM (mu s (now s + 1 + 4) (4 * x + (y - s 117 x) % 4) z) (now s + 1) x (s 116 x) (s 117 x)) (now s + 10) 1 0) (now s + 12) 1 0) 0 15 (s 0 15 + 1)) 115 (4 * x + (y - s 117 x) % 4) z) 114 7 0 114 j = s 114 j := fun j hj => by
        rw [mu_ne (by omega), mu_ne (by omega), mu_ne (by omega), mu_ne (by omega), mu_ne (by omega), pm_out (by omega), mu_ne (by omega)]
      have b115 : ∀ j, mu (mu (mu (mu (mu (putM (mu s (now s + 1 + 4) (4 * x + (y - s 117 x) % 4) z) (now s + 1) x (s 116 x) (s 117 x)) (now s + 10) 1 0) (now s + 12) 1 0) 0 15 (s 0 15 + 1)) 115 (4 * x + (y - s 117 x) % 4) z) 114 7 0 115 j = if j = 4 * x + (y - s 117 x) % 4 then z else s 115 j := fun j => by
        rw [mu_ne (by omega)]
        by_cases e : j = 4 * x + (y - s 117 x) % 4
        · rw [if_pos e, e, mu_eq]
        · rw [if_neg e, mu_ne (by omega), mu_ne (by omega), mu_ne (by omega), mu_ne (by omega), pm_out (by omega), mu_ne (by omega)]
      have b7 : mu (mu (mu (mu (mu (putM (mu s (now s + 1 + 4) (4 * x + (y - s 117 x) % 4) z) (now s + 1) x (s 116 x) (s 117 x)) (now s + 10) 1 0) (now s + 12) 1 0) 0 15 (s 0 15 + 1)) 115 (4 * x + (y - s 117 x) % 4) z) 114 7 0 114 7 = 0 := mu_eq
      have r15 : mu (mu (mu (mu (mu (putM (mu s (now s + 1 + 4) (4 * x + (y - s 117 x) % 4) z) (now s + 1) x (s 116 x) (s 117 x)) (now s + 10) 1 0) (now s + 12) 1 0) 0 15 (s 0 15 + 1)) 115 (4 * x + (y - s 117 x) % 4) z) 114 7 0 0 15 = s 0 15 + 1 := by rw [mu_ne (by omega), mu_ne (by omega), mu_eq]
      have r0 : ∀ i, i ≠ 15 → mu (mu (mu (mu (mu (putM (mu s (now s + 1 + 4) (4 * x + (y - s 117 x) % 4) z) (now s + 1) x (s 116 x) (s 117 x)) (now s + 10) 1 0) (now s + 12) 1 0) 0 15 (s 0 15 + 1)) 115 (4 * x + (y - s 117 x) % 4) z) 114 7 0 0 i = s 0 i := fun i hi => by
        rw [mu_ne (by omega), mu_ne (by omega), mu_ne (by omega), mu_ne (by omega), mu_ne (by omega), pm_out (by omega), mu_ne (by omega)]
      have p10 : mu (mu (mu (mu (mu (putM (mu s (now s + 1 + 4) (4 * x + (y - s 117 x) % 4) z) (now s + 1) x (s 116 x) (s 117 x)) (now s + 10) 1 0) (now s + 12) 1 0) 0 15 (s 0 15 + 1)) 115 (4 * x + (y - s 117 x) % 4) z) 114 7 0 (now s + 10) 1 = 0 := by rw [mu_ne (by omega), mu_ne (by omega), mu_ne (by omega), mu_ne (by omega), mu_eq]
      have p12 : mu (mu (mu (mu (mu (putM (mu s (now s + 1 + 4) (4 * x + (y - s 117 x) % 4) z) (now s + 1) x (s 116 x) (s 117 x)) (now s + 10) 1 0) (now s + 12) 1 0) 0 15 (s 0 15 + 1)) 115 (4 * x + (y - s 117 x) % 4) z) 114 7 0 (now s + 12) 1 = 0 := by rw [mu_ne (by omega), mu_ne (by omega), mu_ne (by omega), mu_eq]
      generalize mu (mu (mu (mu (mu (putM (mu s (now s + 1 + 4) (4 * x + (y - s 117 x) % 4) z) (now s + 1) x (s 116 x) (s 117 x)) (now s + 10) 1 0) (now s + 12) 1 0) 0 15 (s 0 15 + 1)) 115 (4 * x + (y - s 117 x) % 4) z) 114 7 0 = s2 at *
      have rb : ∀ a, 116 ≤ a → a ≤ 121 → s2 a = s a := fun a z1 z2 => ro a (by omega) (by omega) (by omega) (by omega) (by omega) (by omega)
      have e16 := rb 116 (by omega) (by omega)
      have e17 := rb 117 (by omega) (by omega)
      have e21 := rb 121 (by omega) (by omega)
      have fr := brick_fr (d := y) (v := z) hF hP hW c1.1 c1.2 (B' := s2) (b114 0 (by omega)) (b114 1 (by omega)) (b114 2 (by omega)) b115 e16 e17 e21
      refine Inv_day hI t0 r15 r0 (fun a z0 z1 z2 => ro a z0 (by omega) (by omega) (by omega) (by omega) (by omega)) b114 b7 p10 p12 ?_ (FRc_ext (fun a z0 z1 => fl a (by omega) (by omega)) fr.1) (FP_ext (fl _ (by omega) (by omega)) fr.2) ?_ ⟨?_, ?_, ?_⟩ ?_ ?_ ?_ hO
      · unfold HR1 HB at hr1 ⊢
        rw [ro (now s) (by omega) (by omega) (by omega) (by omega) (by omega) (by omega), ro (now s + 9) (by omega) (by omega) (by omega) (by omega) (by omega) (by omega), b114 0 (by omega), b114 2 (by omega), b114 3 (by omega), b114 4 (by omega), b114 5 (by omega), b114 12 (by omega), b114 6 (by omega), b114 13 (by omega), b114 11 (by omega), rb 118 (by omega) (by omega), rb 120 (by omega) (by omega)]
        exact hr1
      · unfold HR3 at hK ⊢; rw [ro (now s + 8) (by omega) (by omega) (by omega) (by omega) (by omega) (by omega), rb 119 (by omega) (by omega)]; exact hK
      · have := hW.1; unfold Wa at this ⊢; rw [b114 0 (by omega), b114 1 (by omega), b114 2 (by omega)]
        obtain ⟨w1, w2, w3, w4, w5, w6, w7, w8⟩ := this
        refine ⟨w1, w2, w3, w4, w5, w6, w7, fun j j0 j1 => ?_⟩
        rw [b115]; split
        · exact c3
        · exact w8 j j0 j1
      · have := hW.2.1; unfold Wc at this ⊢; rw [b114 0 (by omega), b114 1 (by omega), b114 2 (by omega), e16, e17, e21]; exact this
      · have := hW.2.2; unfold Wr at this ⊢; rw [b114 2 (by omega), e16, e21]; exact this
      · rw [rb 118 (by omega) (by omega)]; exact hw2.1
      · rw [rb 119 (by omega) (by omega)]; exact hw2.2.1
      · rw [rb 120 (by omega) (by omega)]; exact hw2.2.2.1
  · refine ⟨-2, s, s, ?_, ?_, HR1_mono (by omega) hI⟩
    · unfold FX11_brick FX11_brick_b30
      rw [hq, FX2_isRoom_ok hF, Option.bind_some]
      by_cases c1 : 0 ≤ x ∧ x < s 114 2
      · rw [if_pos c1, if_neg (by omega)]
        by_cases c2 : y < 0
        · rw [if_pos c2]
        rw [if_neg c2]
        by_cases c3 : 4 ≤ y
        · rw [if_pos c3]
        rw [if_neg c3]
        by_cases c4 : z < 0
        · rw [if_pos c4]
        rw [if_neg c4]
        by_cases c5 : z ≤ 6
        · rw [if_pos c5, FX1_sortOf_ok hF hW c1.1 c1.2 (by omega) (by omega), Option.bind_some, if_pos (by
            by_cases e : sd s x y = z
            · exact e
            · exact absurd ⟨c1, ⟨by omega, by omega⟩, ⟨by omega, c5⟩, e⟩ C)]
        · rw [if_neg c5]
      · rw [if_neg c1, if_pos rfl]
    · unfold FX12_brick FX12_brick_b42
      rw [FX12_isRoom_ok hW.1, Option.bind_some]
      by_cases c1 : 0 ≤ x ∧ x < s 114 2
      · obtain ⟨g1, g2, g3, g4, g5, g6, g7⟩ := hW.room c1.1 c1.2
        rw [if_pos c1, if_neg (by omega), FX12_in_ok, Option.bind_some]
        by_cases c2 : 0 ≤ y ∧ y ≤ 3
        · rw [if_pos c2, if_neg (by omega), FX12_in_ok, Option.bind_some]
          by_cases c3 : 0 ≤ z ∧ z ≤ 6
          · rw [if_pos c3, if_neg (by omega), (FX12_sideOf_ok c1.1 (by omega) g4 g5 c2.1 (by omega)).2, Option.bind_some, if_pos (by
              by_cases e : sd s x y = z
              · exact e
              · exact absurd ⟨c1, c2, c3, e⟩ C)]
          · rw [if_neg c3, if_pos rfl]
        · rw [if_neg c2, if_pos rfl]
      · rw [if_neg c1, if_pos rfl]
theorem ct_fix {t : Int} {N : Nat} {s : iv_M} {x y : Int} (h : Inv t s) (t0 : 0 ≤ t) (t1 : t ≤ 1000) (hy : y = 0 ∨ y = 1) : ∃ a s1 s2, FX11_fix N s 0 x y = some (a, s1) ∧ FX12_fix N s1 113 x y = some (a, s2) ∧ Inv (t + 1) s2 := by
  have hI := h
  obtain ⟨h1, ⟨hr1, ⟨hF, hP⟩, hK, hH4, _⟩, ⟨hW, ⟨pp, _⟩, hw2⟩, _, _, _, _, _, h9, h10⟩ := h
  obtain ⟨n1, n2, n3⟩ := now_ne h1
  have hq : (s 0 4).toNat = now s := rfl
  have hB := hr1.2.1
  have h15 := h9.1
  have hr2 := hW.1.2.2.2.2.2.1
  by_cases C : (0 ≤ x ∧ x < s 114 2) ∧ s 118 x ≠ y
  · obtain ⟨c1, c2⟩ := C
    have hv := hw2.1 x c1.1 c1.2
    have hne : ¬ (if s 118 x = 1 then (1 : Int) else 0) = y := by
      rcases hv with z | z <;> rw [z] <;> simp <;> omega
    have hvy : s 118 x = if y = 0 then 1 else 0 := by
      rcases hv with z | z <;> rcases hy with u | u <;> rw [u] <;> simp <;> omega
    have hc : FX11_fix N s 0 x y = some (1, mu (mu (mu (mu s (now s) 3 (bXo (s (now s) 3) (sl32 1 x))) (now s + 10) 1 0) (now s + 12) 1 0) 0 15 (s 0 15 + 1)) := by
      unfold FX11_fix
      rw [hq, FX2_isRoom_ok hF, Option.bind_some, if_pos c1, if_neg (by omega), FX2_isFixed_ok hB c1.1 c1.2 (by omega), Option.bind_some, if_neg hne, pt_ok, Option.bind_some, day_ok (q := now s) (by rw [mu_ne (by omega)]; rfl) n2 (by rw [mu_ne (by omega)]; omega) (by rw [mu_ne (by omega)]; omega), Option.bind_some, mu_ne (by omega)]
    refine ⟨_, _, mu (mu (mu (mu (mu (mu s (now s) 3 (bXo (s (now s) 3) (sl32 1 x))) (now s + 10) 1 0) (now s + 12) 1 0) 0 15 (s 0 15 + 1)) 118 x y) 114 7 0, hc, ?_, ?_⟩
    · generalize hs1 : mu (mu (mu (mu s (now s) 3 (bXo (s (now s) 3) (sl32 1 x))) (now s + 10) 1 0) (now s + 12) 1 0) 0 15 (s 0 15 + 1) = s1
      have e : ∀ a, 114 ≤ a → a ≤ 131 → s1 a = s a := fun a a0 a1 => by
        rw [← hs1, mu_rw (by omega), mu_rw (by omega), mu_rw (by omega), mu_rw (by omega)]
      have hsh : ((sh 118).2 : Int) = 12 := by decide
      unfold FX12_fix FX12_fix_b23 FX12_fix_b31 FX12_fix_b50 FX12_fix_b59
      simp only [Nat.reduceAdd]
      rw [FX12_isRoom_ok (eb_Wf e hW).1, Option.bind_some, if_pos (show 0 ≤ x ∧ x < s1 114 2 by rw [e 114 (by omega) (by omega)]; exact c1), if_neg (by omega), rd_ok c1.1 (by omega), Option.bind_some, e 118 (by omega) (by omega), hvy, hsh]
      rcases hy with u | u <;> rw [u] <;> simp (disch := omega) [wr_ok]
    · have ro : ∀ a, a ≠ 0 → a ≠ now s → a ≠ now s + 10 → a ≠ now s + 12 → a ≠ 114 → a ≠ 118 → mu (mu (mu (mu (mu (mu s (now s) 3 (bXo (s (now s) 3) (sl32 1 x))) (now s + 10) 1 0) (now s + 12) 1 0) 0 15 (s 0 15 + 1)) 118 x y) 114 7 0 a = s a := fun a z0 z1 z2 z3 z4 z5 => by
        rw [mu_rw z4, mu_rw z5, mu_rw z0, mu_rw z3, mu_rw z2, mu_rw z1]
      have rn : ∀ i, i ≠ 3 → mu (mu (mu (mu (mu (mu s (now s) 3 (bXo (s (now s) 3) (sl32 1 x))) (now s + 10) 1 0) (now s + 12) 1 0) 0 15 (s 0 15 + 1)) 118 x y) 114 7 0 (now s) i = s (now s) i := fun i hi => by simp (disch := omega) only [mu_ne]
      have rn3 : mu (mu (mu (mu (mu (mu s (now s) 3 (bXo (s (now s) 3) (sl32 1 x))) (now s + 10) 1 0) (now s + 12) 1 0) 0 15 (s 0 15 + 1)) 118 x y) 114 7 0 (now s) 3 = bXo (s (now s) 3) (sl32 1 x) := by
        rw [mu_ne (by omega), mu_ne (by omega), mu_ne (by omega), mu_ne (by omega), mu_ne (by omega), mu_eq]
      have b118 : ∀ j, mu (mu (mu (mu (mu (mu s (now s) 3 (bXo (s (now s) 3) (sl32 1 x))) (now s + 10) 1 0) (now s + 12) 1 0) 0 15 (s 0 15 + 1)) 118 x y) 114 7 0 118 j = if j = x then y else s 118 j := fun j => by
        rw [mu_ne (by omega)]
        by_cases e : j = x
        · rw [if_pos e, e, mu_eq]
        · rw [if_neg e, mu_ne (by omega)]; simp (disch := omega) only [mu_ne]
      have b114 : ∀ j, j ≠ 7 → mu (mu (mu (mu (mu (mu s (now s) 3 (bXo (s (now s) 3) (sl32 1 x))) (now s + 10) 1 0) (now s + 12) 1 0) 0 15 (s 0 15 + 1)) 118 x y) 114 7 0 114 j = s 114 j := fun j hj => by simp (disch := omega) only [mu_ne]
      have b7 : mu (mu (mu (mu (mu (mu s (now s) 3 (bXo (s (now s) 3) (sl32 1 x))) (now s + 10) 1 0) (now s + 12) 1 0) 0 15 (s 0 15 + 1)) 118 x y) 114 7 0 114 7 = 0 := mu_eq
      have r15 : mu (mu (mu (mu (mu (mu s (now s) 3 (bXo (s (now s) 3) (sl32 1 x))) (now s + 10) 1 0) (now s + 12) 1 0) 0 15 (s 0 15 + 1)) 118 x y) 114 7 0 0 15 = s 0 15 + 1 := by rw [mu_ne (by omega), mu_ne (by omega), mu_eq]
      have r0 : ∀ i, i ≠ 15 → mu (mu (mu (mu (mu (mu s (now s) 3 (bXo (s (now s) 3) (sl32 1 x))) (now s + 10) 1 0) (now s + 12) 1 0) 0 15 (s 0 15 + 1)) 118 x y) 114 7 0 0 i = s 0 i := fun i hi => by simp (disch := omega) only [mu_ne]
      have p10 : mu (mu (mu (mu (mu (mu s (now s) 3 (bXo (s (now s) 3) (sl32 1 x))) (now s + 10) 1 0) (now s + 12) 1 0) 0 15 (s 0 15 + 1)) 118 x y) 114 7 0 (now s + 10) 1 = 0 := by rw [mu_ne (by omega), mu_ne (by omega), mu_ne (by omega), mu_ne (by omega), mu_eq]
      have p12 : mu (mu (mu (mu (mu (mu s (now s) 3 (bXo (s (now s) 3) (sl32 1 x))) (now s + 10) 1 0) (now s + 12) 1 0) 0 15 (s 0 15 + 1)) 118 x y) 114 7 0 (now s + 12) 1 = 0 := by rw [mu_ne (by omega), mu_ne (by omega), mu_ne (by omega), mu_eq]
      have hO : OZ (mu (mu (mu (mu (mu (mu s (now s) 3 (bXo (s (now s) 3) (sl32 1 x))) (now s + 10) 1 0) (now s + 12) 1 0) 0 15 (s 0 15 + 1)) 118 x y) 114 7 0) := OZ_mu (OZ_mu (OZ_mu (OZ_mu (OZ_mu (OZ_mu h10 (fun z => by omega)) (fun z => by omega)) (fun z => by omega)) (fun z => by omega)) (fun _ _ => by unfold ln; simp; omega)) (fun _ _ => by unfold ln; simp)
      generalize mu (mu (mu (mu (mu (mu s (now s) 3 (bXo (s (now s) 3) (sl32 1 x))) (now s + 10) 1 0) (now s + 12) 1 0) 0 15 (s 0 15 + 1)) 118 x y) 114 7 0 = s2 at *
      have rb : ∀ a, 115 ≤ a → a ≤ 121 → a ≠ 118 → s2 a = s a := fun a z1 z2 z3 => ro a (by omega) (by omega) (by omega) (by omega) (by omega) z3
      have e15 := rb 115 (by omega) (by omega) (by omega)
      have e16 := rb 116 (by omega) (by omega) (by omega)
      have e17 := rb 117 (by omega) (by omega) (by omega)
      have e21 := rb 121 (by omega) (by omega) (by omega)
      have hk : kd s2 = kd s := by funext c d; unfold kd sd; rw [e15, e17, e21]
      have hn : nb s2 = nb s := by funext c d; exact nb_ext (b114 0 (by omega)) (b114 1 (by omega)) c d
      have fx := fun i (i0 : 0 ≤ i) => bit_flip (x := s (now s) 3) (r := x) (i := i) hr1.2.2.1 hr1.2.2.2.1 c1.1 (by omega) i0
      refine Inv_day hI t0 r15 r0 (fun a z0 z1 z2 => ro a z0 (by omega) (by omega) (by omega) (by omega) (by omega)) b114 b7 p10 p12 ?_ ?_ ?_ ?_ ⟨?_, ?_, ?_⟩ ?_ ?_ ?_ hO
      · obtain ⟨g0, ⟨g1, g2, g3, g4, g5⟩, g6, g7, g8, g9, g10, g11⟩ := hr1
        unfold HR1 HB
        rw [rn 0 (by omega), rn 1 (by omega), rn 2 (by omega), rn3, rn 4 (by omega), rn 5 (by omega), rn 6 (by omega), rn 7 (by omega), rn 8 (by omega), ro (now s + 9) (by omega) (by omega) (by omega) (by omega) (by omega) (by omega), b114 0 (by omega), b114 2 (by omega), b114 3 (by omega), b114 4 (by omega), b114 5 (by omega), b114 12 (by omega), b114 6 (by omega), b114 13 (by omega), b114 11 (by omega), rb 120 (by omega) (by omega) (by omega)]
        refine ⟨g0, ⟨g1, g2, fun r r0' r1' => ?_, g4, g5⟩, (fx 0 (by omega)).1.1, (fx 0 (by omega)).1.2, g8, g9, g10, g11⟩
        rw [(fx r r0').2, b118]
        by_cases e : r = x
        · rw [if_pos e, if_pos e, g3 x c1.1 c1.2, hvy]
          rcases hy with u | u <;> rw [u] <;> simp
        · rw [if_neg e, if_neg e]; exact g3 r r0' r1'
      · have : FRc s2 (now s + 1) s := FRc_ext (fun a z0 z1 => ro a (by omega) (by omega) (by omega) (by omega) (by omega) (by omega)) hF
        unfold FRc at this ⊢
        rw [hk, hn, e15, e17, e21, b114 0 (by omega), b114 1 (by omega), b114 2 (by omega)]; exact this
      · unfold FP at hP ⊢; rw [ro (now s + 1) (by omega) (by omega) (by omega) (by omega) (by omega) (by omega), e16, e17, b114 2 (by omega)]; exact hP
      · unfold HR3 at hK ⊢; rw [ro (now s + 8) (by omega) (by omega) (by omega) (by omega) (by omega) (by omega), rb 119 (by omega) (by omega) (by omega)]; exact hK
      · have := hW.1; unfold Wa at this ⊢; rw [b114 0 (by omega), b114 1 (by omega), b114 2 (by omega), e15]; exact this
      · have := hW.2.1; unfold Wc at this ⊢; rw [b114 0 (by omega), b114 1 (by omega), b114 2 (by omega), e16, e17, e21]; exact this
      · have := hW.2.2; unfold Wr at this ⊢; rw [b114 2 (by omega), e16, e21]; exact this
      · intro r z0 z1; rw [b118]; split
        · omega
        · exact hw2.1 r z0 z1
      · rw [rb 119 (by omega) (by omega) (by omega)]; exact hw2.2.1
      · rw [rb 120 (by omega) (by omega) (by omega)]; exact hw2.2.2.1
  · refine ⟨0, s, s, ?_, ?_, HR1_mono (by omega) hI⟩
    · unfold FX11_fix FX11_fix_b23
      rw [hq, FX2_isRoom_ok hF, Option.bind_some]
      by_cases c1 : 0 ≤ x ∧ x < s 114 2
      · have e : s 118 x = y := by
          by_cases e : s 118 x = y
          · exact e
          · exact absurd ⟨c1, e⟩ C
        rw [if_pos c1, if_neg (by omega), FX2_isFixed_ok hB c1.1 c1.2 (by omega), Option.bind_some, if_pos (by rw [e]; rcases hy with u | u <;> rw [u] <;> simp)]
      · rw [if_neg c1, if_pos rfl]
    · unfold FX12_fix FX12_fix_b30 FX12_fix_b23 FX12_fix_b30 FX12_fix_b31 FX12_fix_b59
      rw [FX12_isRoom_ok hW.1, Option.bind_some]
      by_cases c1 : 0 ≤ x ∧ x < s 114 2
      · have e : s 118 x = y := by
          by_cases e : s 118 x = y
          · exact e
          · exact absurd ⟨c1, e⟩ C
        simp only [Nat.reduceAdd]
        rw [if_pos c1, if_neg (by omega), rd_ok c1.1 (by omega), Option.bind_some, e]
        rcases hy with u | u <;> rw [u] <;> simp
      · rw [if_neg c1, if_pos rfl]; simp
