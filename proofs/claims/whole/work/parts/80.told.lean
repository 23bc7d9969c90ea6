-- WALKS TOLD: the almanac, wishes, who woke
def lsT (k r o : Int) : Int := if k = 2 ∧ o < r then o else r
def gtT (k r o : Int) : Int := if k = 2 ∧ o < r then r else o
theorem isW_ls {B : iv_M} {k r o : Int} (h : isW B k r o) : isW B k (lsT k r o) (gtT k r o) ∧ (k = 2 → lsT k r o < gtT k r o) := by
  unfold lsT gtT
  unfold isW at h ⊢
  by_cases e : k = 2 ∧ o < r
  · rw [if_pos e, if_pos e]; omega
  · rw [if_neg e, if_neg e]; omega
theorem FX2_walkOf_ok {N q : Nat} {s B : iv_M} {k r o : Int} (hF : FRc s (q + 1) B) (hr : B 114 2 ≤ 12) : (isW B k r o ∧ FX2_walkOf N s q k r o = some (256 * k + 16 * lsT k r o + gtT k r o)) ∨ (¬ isW B k r o ∧ FX2_walkOf N s q k r o = some (-1)) := by
  by_cases h : isW B k r o
  · left
    refine ⟨h, ?_⟩
    have h2 := h
    unfold isW at h
    have hw : ∀ a b : Int, 0 ≤ a → a < 12 → 0 ≤ b → b < 12 → bOr (bOr (sl32 k 8) (sl32 a 4)) b = 256 * k + 16 * a + b := fun a b a0 a1 b0 b1 => wk_code (by omega) (by omega) a0 (by omega) b0 (by omega)
    unfold FX2_walkOf
    rw [if_neg (by omega), if_neg (by omega), FX2_isRoom_ok hF, Option.bind_some, if_pos (show 0 ≤ r ∧ r < B 114 2 by omega), if_neg (by omega)]
    have e45 : FX2_walkOf_b45 N s q k r o = some (256 * k + 16 * lsT k r o + gtT k r o) := by
      have e65 : FX2_walkOf_b65 N s k r o = some (256 * k + 16 * lsT k r o + gtT k r o) := by
        unfold FX2_walkOf_b65 FX2_walkOf_b79 FX2_walkOf_b80 FX2_walkOf_b96 FX2_walkOf_b109 lsT gtT
        by_cases e : k = 2
        · rw [if_pos e]
          by_cases e1 : r ≤ o
          · rw [if_pos e1, if_pos rfl, if_pos rfl, if_neg (by omega), if_neg (by omega), hw r o (by omega) (by omega) (by omega) (by omega)]
          · rw [if_neg e1, if_neg (by omega), if_neg (by omega), if_pos (by omega), if_pos (by omega), hw o r (by omega) (by omega) (by omega) (by omega)]
        · rw [if_neg e, if_pos rfl, if_pos rfl, if_neg (by omega), if_neg (by omega), hw r o (by omega) (by omega) (by omega) (by omega)]
      unfold FX2_walkOf_b45
      by_cases e : k = 2
      · rw [if_pos e, FX2_isRoom_ok hF, Option.bind_some, if_pos (show 0 ≤ o ∧ o < B 114 2 by omega), if_neg (by omega), if_neg (by omega)]; exact e65
      · rw [if_neg e]; exact e65
    have e34 : FX2_walkOf_b34 N s q k r o = some (256 * k + 16 * lsT k r o + gtT k r o) := by
      unfold FX2_walkOf_b34
      by_cases e : k = 3
      · rw [if_pos e, if_pos (by omega)]; exact e45
      · rw [if_neg e]; exact e45
    by_cases e : k = 1
    · rw [if_pos e, if_neg (by omega), if_neg (by omega)]; exact e34
    · rw [if_neg e]; exact e34
  · right
    refine ⟨h, ?_⟩
    unfold isW at h
    unfold FX2_walkOf FX2_walkOf_b18 FX2_walkOf_b34 FX2_walkOf_b43 FX2_walkOf_b45 FX2_walkOf_b63
    rw [FX2_isRoom_ok hF, FX2_isRoom_ok hF]
    simp only [Option.bind_some]
    repeat' split
    all_goals first | rfl | (exfalso; omega) | (exfalso; rename_i z; exact z (Or.inr trivial)) | (exfalso; rename_i z; exact z (Or.inl trivial))
theorem FX12_isWalk_ok {N : Nat} {s : iv_M} {k r o : Int} (hW : Wa s) : (isW s k r o ∧ FX12_isWalk N s 113 k r o = some 1) ∨ (¬ isW s k r o ∧ FX12_isWalk N s 113 k r o = some 0) := by
  by_cases h : isW s k r o
  · left
    refine ⟨h, ?_⟩
    unfold isW at h
    unfold FX12_isWalk FX12_isWalk_b64 FX12_isWalk_b74
    rw [FX12_isRoom_ok hW, FX12_isRoom_ok hW, FX12_in_ok]
    simp only [Option.bind_some]
    repeat' split
    all_goals first | rfl | (exfalso; omega) | (exfalso; rename_i z; exact z (Or.inr trivial)) | (exfalso; rename_i z; exact z (Or.inl trivial))
  · right
    refine ⟨h, ?_⟩
    unfold isW at h
    unfold FX12_isWalk FX12_isWalk_b63 FX12_isWalk_b64 FX12_isWalk_b74
    rw [FX12_isRoom_ok hW, FX12_isRoom_ok hW, FX12_in_ok]
    simp only [Option.bind_some]
    repeat' split
    all_goals first | rfl | (exfalso; omega) | (exfalso; rename_i z; exact z (Or.inr trivial)) | (exfalso; rename_i z; exact z (Or.inl trivial))
theorem FX12_least_ok {N : Nat} {s : iv_M} {k r o : Int} : FX12_least N s k r o = some (lsT k r o) := by
  unfold FX12_least FX12_least_b14 FX12_least_b15 lsT
  repeat' split
  all_goals first | rfl | (exfalso; omega)
theorem FX12_greatest_ok {N : Nat} {s : iv_M} {k r o : Int} : FX12_greatest N s k r o = some (gtT k r o) := by
  unfold FX12_greatest FX12_greatest_b14 FX12_greatest_b15 gtT
  repeat' split
  all_goals first | rfl | (exfalso; omega)
theorem FX7_add_ok {N q : Nat} {s : iv_M} {y n : Int} (hn : ((sh (q + 1)).2 : Int) = n) (c0 : 0 ≤ s q 1) : FX7_add N s q y = if s q 1 < n then some (1, mu (mu s (q + 1) (s q 1) y) q 1 (s q 1 + 1)) else some (0, s) := by
  have hb := sh_le (q + 1)
  unfold FX7_add
  rw [hn]
  by_cases e : s q 1 < n
  · rw [if_pos e, if_pos e, wr_ok c0 e, Option.bind_some, pt_ok, Option.bind_some, mu_ne (by omega), w32_id (by omega) (by omega)]
  · rw [if_neg e, if_neg e]
theorem Inv_tail {t : Int} {s s2 : iv_M} (hI : Inv t s) (t0 : 0 ≤ t) (r0 : ∀ i, i ≠ 15 → s2 0 i = s 0 i) (c15 : s2 0 15 = s 0 15 ∨ s2 0 15 = s 0 15 + 1) (ro : ∀ a, a ≠ 0 → (a < now s + 16 ∨ now s + 21 < a) → a ≠ 114 → (a < 124 ∨ 131 < a) → s2 a = s a) (b : ∀ j, j ≠ 8 → j ≠ 9 → j ≠ 10 → s2 114 j = s 114 j) (h6' : HR6 s2 (now s) s2) (w8 : 0 ≤ s2 114 8 ∧ s2 114 8 ≤ 10) (w9 : 0 ≤ s2 114 9 ∧ s2 114 9 ≤ 12) (w10 : 0 ≤ s2 114 10 ∧ s2 114 10 ≤ 8) (e6 : ∀ j, 0 ≤ j → j < s2 114 8 → isW s (s2 124 j) (s2 125 j) (s2 126 j) ∧ (s2 124 j = 2 → s2 125 j < s2 126 j)) (e7 : ∀ j, 0 ≤ j → j < s2 114 9 → (0 ≤ s2 127 j ∧ s2 127 j < s 114 3) ∧ (0 ≤ s2 128 j ∧ s2 128 j ≤ 10) ∧ 0 ≤ s2 129 j ∧ s2 129 j < 16) (e8 : ∀ j, 0 ≤ j → j < s2 114 10 → (0 ≤ s2 130 j ∧ s2 130 j < s 114 2) ∧ 0 ≤ s2 131 j ∧ s2 131 j < 16) (hO : OZ s2) (hm : s2 0 15 = s 0 15 → s2 114 10 = s 114 10 ∧ s2 130 = s 130 ∧ s2 131 = s 131) : Inv (t + 1) s2 := by
  obtain ⟨h1, ⟨hr1, ⟨hF, hP⟩, hK, g4, g5, g6⟩, ⟨hW, ⟨a1, a2, a3, a4, a5, a6, a7, a8, a9, a10, a11, a12⟩, ⟨z1, z2, z3, z4, z5, z6, z7, z8⟩⟩, h4, h5, h6, h7, h8, h9, h10⟩ := id hI
  obtain ⟨n1, n2, n3⟩ := now_ne h1
  have b0 := b 0 (by omega) (by omega) (by omega)
  have b1 := b 1 (by omega) (by omega) (by omega)
  have b2 := b 2 (by omega) (by omega) (by omega)
  have b3 := b 3 (by omega) (by omega) (by omega)
  have b4 := b 4 (by omega) (by omega) (by omega)
  have b5 := b 5 (by omega) (by omega) (by omega)
  have b6 := b 6 (by omega) (by omega) (by omega)
  have b7 := b 7 (by omega) (by omega) (by omega)
  have b11 := b 11 (by omega) (by omega) (by omega)
  have b12 := b 12 (by omega) (by omega) (by omega)
  have b13 := b 13 (by omega) (by omega) (by omega)
  have rb : ∀ a, 115 ≤ a → a ≤ 123 → s2 a = s a := fun a x y => ro a (by omega) (by omega) (by omega) (by omega)
  have rh : ∀ a, now s ≤ a → a ≤ now s + 15 → s2 a = s a := fun a x y => ro a (by omega) (by omega) (by omega) (by omega)
  have q15 := rb 115 (by omega) (by omega)
  have q16 := rb 116 (by omega) (by omega)
  have q17 := rb 117 (by omega) (by omega)
  have q18 := rb 118 (by omega) (by omega)
  have q19 := rb 119 (by omega) (by omega)
  have q20 := rb 120 (by omega) (by omega)
  have q21 := rb 121 (by omega) (by omega)
  have q22 := rb 122 (by omega) (by omega)
  have q23 := rb 123 (by omega) (by omega)
  have hk : kd s2 = kd s := by funext c d; unfold kd sd; rw [q15, q17, q21]
  have hn : nb s2 = nb s := by funext c d; exact nb_ext b0 b1 c d
  have dc : dC s2 = dC s := by funext j r; unfold dC; rw [q23]
  have dt : dT s2 = dT s := by funext j r; unfold dT; rw [q23]
  have pc : pC s2 = pC s := by funext j r; unfold pC; rw [q22]
  have pt : pT s2 = pT s := by funext j r; unfold pT; rw [q22]
  have fv : FV s2 = FV s := by funext f g; unfold FV; rw [b0, b1, b2]
  have iw : isW s2 = isW s := by funext k r o; unfold isW; rw [b2]
  have h15 := h9.1
  have hme : MeS s2 ∧ MeR s2 := by
    rcases c15 with c | c
    · obtain ⟨m1, m2, m3⟩ := hm c
      refine Me_er ⟨fun a ha => ?_, fun j j7 j8 j9 j13 => ?_⟩ (fun a ha => ro a (by omega) (by omega) (by omega) (by omega)) c ⟨h7, h8⟩
      · rcases ha with z | z | z | z
        · exact rb a (by omega) (by omega)
        · exact rb a (by omega) (by omega)
        · rw [z, m2]
        · rw [z, m3]
      · by_cases e : j = 10
        · rw [e, m1]
        · exact b j j8 j9 e
    · exact Me_bump ⟨h7, h8⟩ (by rw [ro 64 (by omega) (by omega) (by omega) (by omega)]) (by rw [ro 81 (by omega) (by omega) (by omega) (by omega)]) (by omega)
  refine Inv_mk hI (by omega) r0 (by omega) (fun a ha => ro a (by omega) (by omega) (by omega) (by omega)) (fun i hi => by rw [ro 113 (by omega) (by omega) (by omega) (by omega)]) ⟨?_, ⟨?_, ?_⟩, ?_, ?_, ?_, h6'⟩ ⟨⟨?_, ?_, ?_⟩, ⟨by rw [b3]; exact a1, by rw [b4]; exact a2, by rw [b5]; exact a3, by rw [b6]; omega, by rw [b7]; exact a5, w8, w9, w10, by rw [b11]; exact a9, by rw [b12]; exact a10, by rw [b13]; exact a11, by rw [b0, b2]; exact a12⟩, ⟨by rw [b2, q18]; exact z1, by rw [q19]; exact z2, by rw [b3, b2, q20]; exact z3, by rw [b7, fv, pc, pt]; exact z4, by rw [b11, fv, dc, dt]; exact z5, by rw [iw]; exact e6, by rw [b3]; exact e7, by rw [b2]; exact e8⟩⟩ (by rw [b12]; exact h5.2.2.2.1) hO hme.1 hme.2
  · unfold HR1 HB at hr1 ⊢
    rw [rh (now s) (by omega) (by omega), rh (now s + 9) (by omega) (by omega), b0, b2, b3, b4, b5, b6, b11, b12, b13, q18, q20]; exact hr1
  · have : FRc s2 (now s + 1) s := FRc_ext (fun a z0 z1 => rh a (by omega) (by omega)) hF
    unfold FRc at this ⊢
    rw [hk, hn, q15, q17, q21, b0, b1, b2]; exact this
  · unfold FP at hP ⊢; rw [rh (now s + 1) (by omega) (by omega), q16, q17, b2]; exact hP
  · unfold HR3 at hK ⊢; rw [rh (now s + 8) (by omega) (by omega), q19]; exact hK
  · unfold HR4 at g4 ⊢; rw [pc, pt, rh (now s + 10) (by omega) (by omega), rh (now s + 11) (by omega) (by omega), rh (now s + 12) (by omega) (by omega), rh (now s + 13) (by omega) (by omega), b7, b2]; exact g4
  · unfold HR5 at g5 ⊢; rw [dc, dt, rh (now s + 14) (by omega) (by omega), rh (now s + 15) (by omega) (by omega), b11, b2]; exact g5
  · have := hW.1; unfold Wa at this ⊢; rw [b0, b1, b2, q15]; exact this
  · have := hW.2.1; unfold Wc at this ⊢; rw [b0, b1, b2, q16, q17, q21]; exact this
  · have := hW.2.2; unfold Wr at this ⊢; rw [b2, q16, q21]; exact this
theorem ct_almanac {t : Int} {N : Nat} {s : iv_M} {x y z : Int} (h : Inv t s) (t0 : 0 ≤ t) : ∃ a s1 s2, FX11_almanac N s 0 x y z = some (a, s1) ∧ FX12_almanac N s1 113 x y z = some (a, s2) ∧ Inv (t + 1) s2 := by
  have hI := h
  obtain ⟨h1, ⟨hr1, ⟨hF, hP⟩, hK, _, _, ⟨u1, u2, u3, u4, u5, u6⟩⟩, ⟨hW, ⟨_, _, _, _, _, a6, a7, a8, _⟩, ⟨_, _, _, _, _, e6, e7, e8⟩⟩, _, _, _, _, _, h9, h10⟩ := h
  obtain ⟨n1, n2, n3⟩ := now_ne h1
  have hq : (s 0 4).toNat = now s := rfl
  have hsh := (HQ_rows (now_HQ h1).1).2.2.2.1
  have hr2 := hW.1.2.2.2.2.2.1
  by_cases e : x = -1
  · obtain ⟨s2, hs2⟩ : ∃ s2, s2 = mu (mu s (now s + 16) 1 0) 114 8 0 := ⟨_, rfl⟩
    have k8 : s2 114 8 = 0 := by rw [hs2, mu_eq]
    have k16 : s2 (now s + 16) 1 = 0 := by rw [hs2, mu_ne (by omega), mu_eq]
    have ro : ∀ a, a ≠ now s + 16 → a ≠ 114 → s2 a = s a := fun a z1 z2 => by rw [hs2, mu_rw z2, mu_rw z1]
    have b : ∀ j, j ≠ 8 → s2 114 j = s 114 j := fun j hj => by rw [hs2]; simp (disch := omega) only [mu_ne]
    refine ⟨0, mu s (now s + 16) 1 0, s2, ?_, ?_, ?_⟩
    · unfold FX11_almanac; rw [if_pos e, hq, pt_ok, Option.bind_some]
    · unfold FX12_almanac
      simp only [Nat.reduceAdd]
      rw [if_pos e, wr_ok (by omega) (by omega), Option.bind_some, hs2]
    · refine Inv_tail hI t0 (fun i hi => by rw [ro 0 (by omega) (by omega)]) (Or.inl (by rw [ro 0 (by omega) (by omega)])) (fun a z0 z1 z2 z3 => ro a (by omega) z2) (fun j j8 _ _ => b j j8) ⟨by rw [k16, k8], fun j j0 j1 => by omega, ?_, ?_, ?_, ?_⟩ (by omega) (by rw [b 9 (by omega)]; exact a7) (by rw [b 10 (by omega)]; exact a8) (fun j j0 j1 => by omega) ?_ ?_ ?_ (fun _ => ⟨b 10 (by omega), ro 130 (by omega) (by omega), ro 131 (by omega) (by omega)⟩)
      · rw [ro (now s + 18) (by omega) (by omega), b 9 (by omega)]; exact u3
      · rw [ro (now s + 19) (by omega) (by omega), b 9 (by omega), ro 127 (by omega) (by omega), ro 128 (by omega) (by omega), ro 129 (by omega) (by omega)]; exact u4
      · rw [ro (now s + 20) (by omega) (by omega), b 10 (by omega)]; exact u5
      · rw [ro (now s + 21) (by omega) (by omega), b 10 (by omega), ro 130 (by omega) (by omega), ro 131 (by omega) (by omega)]; exact u6
      · rw [b 9 (by omega), ro 127 (by omega) (by omega), ro 128 (by omega) (by omega), ro 129 (by omega) (by omega)]; exact e7
      · rw [b 10 (by omega), ro 130 (by omega) (by omega), ro 131 (by omega) (by omega)]; exact e8
      · rw [hs2]; exact OZ_mu (OZ_mu h10 (fun z => by omega)) (fun _ _ => by unfold ln; simp)
  have hw := FX2_walkOf_ok (N := N) (q := now s) (s := s) (B := s) (k := x) (r := y) (o := z) hF hr2
  have add : ∀ v, FX7_add N s (now s + 16) v = if s 114 8 < 10 then some (1, mu (mu s (now s + 17) (s 114 8) v) (now s + 16) 1 (s 114 8 + 1)) else some (0, s) := fun v => by
    have := FX7_add_ok (N := N) (q := now s + 16) (s := s) (y := v) (n := 10) (by rw [hsh]; rfl) (by rw [u1]; omega)
    rw [u1] at this; exact this
  by_cases W : isW s x y z
  · rcases hw with ⟨_, hw⟩ | ⟨hw, _⟩
    rotate_left
    · exact absurd W hw
    have wls := isW_ls W
    by_cases f : s 114 8 < 10
    · obtain ⟨s1, hs1⟩ : ∃ s1, s1 = mu (mu s (now s + 17) (s 114 8) (256 * x + 16 * lsT x y z + gtT x y z)) (now s + 16) 1 (s 114 8 + 1) := ⟨_, rfl⟩
      obtain ⟨s2, hs2⟩ : ∃ s2, s2 = mu (mu (mu (mu s1 124 (s 114 8) x) 125 (s 114 8) (lsT x y z)) 126 (s 114 8) (gtT x y z)) 114 8 (s 114 8 + 1) := ⟨_, rfl⟩
      have o1 : ∀ a, a ≠ now s + 16 → a ≠ now s + 17 → s1 a = s a := fun a z1 z2 => by rw [hs1, mu_rw z1, mu_rw z2]
      have hb1 : Eb s s1 := fun a z1 z2 => o1 a (by omega) (by omega)
      have k8 : s2 114 8 = s 114 8 + 1 := by rw [hs2, mu_eq]
      have k16 : s2 (now s + 16) 1 = s 114 8 + 1 := by rw [hs2, hs1]; simp (disch := omega) only [mu_ne, mu_eq]
      have k17 : ∀ j, s2 (now s + 17) j = if j = s 114 8 then 256 * x + 16 * lsT x y z + gtT x y z else s (now s + 17) j := fun j => by
        rw [hs2, hs1]
        by_cases q : j = s 114 8
        · rw [if_pos q, q]; simp (disch := omega) only [mu_ne, mu_eq]
        · rw [if_neg q]; simp (disch := omega) only [mu_ne]
      have k24 : ∀ j, s2 124 j = if j = s 114 8 then x else s 124 j := fun j => by
        rw [hs2, hs1]
        by_cases q : j = s 114 8
        · rw [if_pos q, q]; simp (disch := omega) only [mu_ne, mu_eq]
        · rw [if_neg q]; simp (disch := omega) only [mu_ne]
      have k25 : ∀ j, s2 125 j = if j = s 114 8 then lsT x y z else s 125 j := fun j => by
        rw [hs2, hs1]
        by_cases q : j = s 114 8
        · rw [if_pos q, q]; simp (disch := omega) only [mu_ne, mu_eq]
        · rw [if_neg q]; simp (disch := omega) only [mu_ne]
      have k26 : ∀ j, s2 126 j = if j = s 114 8 then gtT x y z else s 126 j := fun j => by
        rw [hs2, hs1]
        by_cases q : j = s 114 8
        · rw [if_pos q, q]; simp (disch := omega) only [mu_ne, mu_eq]
        · rw [if_neg q]; simp (disch := omega) only [mu_ne]
      have ro : ∀ a, a ≠ now s + 16 → a ≠ now s + 17 → a ≠ 114 → a ≠ 124 → a ≠ 125 → a ≠ 126 → s2 a = s a := fun a z1 z2 z3 z4 z5 z6 => by rw [hs2, mu_rw z3, mu_rw z6, mu_rw z5, mu_rw z4, o1 a z1 z2]
      have b : ∀ j, j ≠ 8 → s2 114 j = s 114 j := fun j hj => by rw [hs2, hs1]; simp (disch := omega) only [mu_ne]
      refine ⟨s 114 8 + 1, s1, s2, ?_, ?_, ?_⟩
      · unfold FX11_almanac FX11_almanac_b67
        have hx : ¬ 256 * x + 16 * lsT x y z + gtT x y z = -1 := by have := wls.1; unfold isW at this; omega
        rw [if_neg e, hq, hw, Option.bind_some, if_neg hx, add, if_pos f, Option.bind_some]
        show (if (1 : Int) = 0 then _ else _) = _
        rw [if_neg (by omega)]
        dsimp only
        rw [← hs1]
        have : (s1 0 4).toNat = now s := by rw [o1 0 (by omega) (by omega)]; rfl
        rw [this]
        congr 2
        rw [hs1, mu_eq]
      · unfold FX12_almanac
        simp only [Nat.reduceAdd]
        rcases FX12_isWalk_ok (N := N) (k := x) (r := y) (o := z) (eb_Wa hb1 hW.1) with ⟨_, hi⟩ | ⟨hi, _⟩
        · have e114 : s1 114 = s 114 := hb1 114 (by omega) (by omega)
          rw [if_neg e, rd_ok (by omega) (by omega), Option.bind_some, hi, Option.bind_some, if_neg (by omega), e114, if_neg (by omega), wr_ok (by omega) (by omega), Option.bind_some, FX12_least_ok, Option.bind_some, wr_ok (by omega) (by omega), Option.bind_some, FX12_greatest_ok, Option.bind_some, wr_ok (by omega) (by omega), Option.bind_some, rd_ok (by omega) (by omega), Option.bind_some, wr_ok (by omega) (by omega), Option.bind_some]
          simp (disch := omega) only [mu_ne]
          rw [e114, w32_id (by omega) (by omega), hs2]
        · exact absurd (eb_isW hb1 W) hi
      · refine Inv_tail hI t0 (fun i hi => by rw [ro 0 (by omega) (by omega) (by omega) (by omega) (by omega) (by omega)]) (Or.inl (by rw [ro 0 (by omega) (by omega) (by omega) (by omega) (by omega) (by omega)])) (fun a z0 z1 z2 z3 => ro a (by omega) (by omega) z2 (by omega) (by omega) (by omega)) (fun j j8 _ _ => b j j8) ⟨by rw [k16, k8], fun j j0 j1 => ?_, ?_, ?_, ?_, ?_⟩ (by omega) (by rw [b 9 (by omega)]; exact a7) (by rw [b 10 (by omega)]; exact a8) (fun j j0 j1 => ?_) ?_ ?_ ?_ (fun _ => ⟨b 10 (by omega), ro 130 (by omega) (by omega) (by omega) (by omega) (by omega) (by omega), ro 131 (by omega) (by omega) (by omega) (by omega) (by omega) (by omega)⟩)
        · rw [k17, k24, k25, k26]
          by_cases q : j = s 114 8
          · rw [if_pos q, if_pos q, if_pos q, if_pos q]
          · rw [if_neg q, if_neg q, if_neg q, if_neg q]; exact u2 j j0 (by omega)
        · rw [ro (now s + 18) (by omega) (by omega) (by omega) (by omega) (by omega) (by omega), b 9 (by omega)]; exact u3
        · rw [ro (now s + 19) (by omega) (by omega) (by omega) (by omega) (by omega) (by omega), b 9 (by omega), ro 127 (by omega) (by omega) (by omega) (by omega) (by omega) (by omega), ro 128 (by omega) (by omega) (by omega) (by omega) (by omega) (by omega), ro 129 (by omega) (by omega) (by omega) (by omega) (by omega) (by omega)]; exact u4
        · rw [ro (now s + 20) (by omega) (by omega) (by omega) (by omega) (by omega) (by omega), b 10 (by omega)]; exact u5
        · rw [ro (now s + 21) (by omega) (by omega) (by omega) (by omega) (by omega) (by omega), b 10 (by omega), ro 130 (by omega) (by omega) (by omega) (by omega) (by omega) (by omega), ro 131 (by omega) (by omega) (by omega) (by omega) (by omega) (by omega)]; exact u6
        · rw [k24, k25, k26]
          by_cases q : j = s 114 8
          · rw [if_pos q, if_pos q, if_pos q]; exact wls
          · rw [if_neg q, if_neg q, if_neg q]; exact e6 j j0 (by omega)
        · rw [b 9 (by omega), ro 127 (by omega) (by omega) (by omega) (by omega) (by omega) (by omega), ro 128 (by omega) (by omega) (by omega) (by omega) (by omega) (by omega), ro 129 (by omega) (by omega) (by omega) (by omega) (by omega) (by omega)]; exact e7
        · rw [b 10 (by omega), ro 130 (by omega) (by omega) (by omega) (by omega) (by omega) (by omega), ro 131 (by omega) (by omega) (by omega) (by omega) (by omega) (by omega)]; exact e8
        · rw [hs2, hs1]; exact OZ_mu (OZ_mu (OZ_mu (OZ_mu (OZ_mu (OZ_mu h10 (fun z => by omega)) (fun z => by omega)) (fun _ _ => by unfold ln; simp; omega)) (fun _ _ => by unfold ln; simp; omega)) (fun _ _ => by unfold ln; simp; omega)) (fun _ _ => by unfold ln; simp)
    · refine ⟨-2, s, s, ?_, ?_, HR1_mono (by omega) hI⟩
      · unfold FX11_almanac FX11_almanac_b65 FX11_almanac_b67
        have hx : ¬ 256 * x + 16 * lsT x y z + gtT x y z = -1 := by have := wls.1; unfold isW at this; omega
        rw [if_neg e, hq, hw, Option.bind_some, if_neg hx, add, if_neg f, Option.bind_some]
        exact if_pos rfl
      · unfold FX12_almanac FX12_almanac_b41
        simp only [Nat.reduceAdd]
        rcases FX12_isWalk_ok (N := N) (k := x) (r := y) (o := z) hW.1 with ⟨_, hi⟩ | ⟨hi, _⟩
        · rw [if_neg e, rd_ok (by omega) (by omega), Option.bind_some, hi, Option.bind_some, if_neg (by omega), if_pos (by omega)]
        · exact absurd W hi
  · refine ⟨-2, s, s, ?_, ?_, HR1_mono (by omega) hI⟩
    · rcases hw with ⟨hw, _⟩ | ⟨_, hw⟩
      · exact absurd hw W
      · unfold FX11_almanac FX11_almanac_b65 FX11_almanac_b67
        rw [if_neg e, hq, hw, Option.bind_some, if_pos rfl]
    · unfold FX12_almanac FX12_almanac_b41
      simp only [Nat.reduceAdd]
      rcases FX12_isWalk_ok (N := N) (k := x) (r := y) (o := z) hW.1 with ⟨hi, _⟩ | ⟨_, hi⟩
      · exact absurd hi W
      · rw [if_neg e, rd_ok (by omega) (by omega), Option.bind_some, hi, Option.bind_some, if_pos rfl]
theorem ct_wish {t : Int} {N : Nat} {s : iv_M} {x y z w : Int} (h : Inv t s) (t0 : 0 ≤ t) : ∃ a s1 s2, FX11_wish N s 0 x y z w = some (a, s1) ∧ FX12_wish N s1 113 x y z w = some (a, s2) ∧ Inv (t + 1) s2 := by
  have hI := h
  obtain ⟨h1, ⟨hr1, ⟨hF, hP⟩, hK, _, _, ⟨u1, u2, u3, u4, u5, u6⟩⟩, ⟨hW, ⟨a1, _, _, _, _, a6, a7, a8, _⟩, ⟨_, _, _, _, _, e6, e7, e8⟩⟩, _, _, _, _, _, h9, h10⟩ := h
  obtain ⟨n1, n2, n3⟩ := now_ne h1
  have hq : (s 0 4).toNat = now s := rfl
  have hsh := (HQ_rows (now_HQ h1).1).2.2.2.2.1
  obtain ⟨v1, v2, v3, v4, v5, hr2, _⟩ := hW.1
  by_cases e : x = -1
  · obtain ⟨s2, hs2⟩ : ∃ s2, s2 = mu (mu s (now s + 18) 1 0) 114 9 0 := ⟨_, rfl⟩
    have k8 : s2 114 9 = 0 := by rw [hs2, mu_eq]
    have k16 : s2 (now s + 18) 1 = 0 := by rw [hs2, mu_ne (by omega), mu_eq]
    have ro : ∀ a, a ≠ now s + 18 → a ≠ 114 → s2 a = s a := fun a z1 z2 => by rw [hs2, mu_rw z2, mu_rw z1]
    have b : ∀ j, j ≠ 9 → s2 114 j = s 114 j := fun j hj => by rw [hs2]; simp (disch := omega) only [mu_ne]
    refine ⟨0, mu s (now s + 18) 1 0, s2, ?_, ?_, ?_⟩
    · unfold FX11_wish; rw [if_pos e, hq, pt_ok, Option.bind_some]
    · unfold FX12_wish
      simp only [Nat.reduceAdd]
      rw [if_pos e, wr_ok (by omega) (by omega), Option.bind_some, hs2]
    · refine Inv_tail hI t0 (fun i hi => by rw [ro 0 (by omega) (by omega)]) (Or.inl (by rw [ro 0 (by omega) (by omega)])) (fun a z0 z1 z2 z3 => ro a (by omega) z2) (fun j _ j9 _ => b j j9) ⟨?_, ?_, by rw [k16, k8], fun j j0 j1 => by omega, ?_, ?_⟩ (by rw [b 8 (by omega)]; exact a6) (by omega) (by rw [b 10 (by omega)]; exact a8) ?_ (fun j j0 j1 => by omega) ?_ ?_ (fun _ => ⟨b 10 (by omega), ro 130 (by omega) (by omega), ro 131 (by omega) (by omega)⟩)
      · rw [ro (now s + 16) (by omega) (by omega), b 8 (by omega)]; exact u1
      · rw [ro (now s + 17) (by omega) (by omega), b 8 (by omega), ro 124 (by omega) (by omega), ro 125 (by omega) (by omega), ro 126 (by omega) (by omega)]; exact u2
      · rw [ro (now s + 20) (by omega) (by omega), b 10 (by omega)]; exact u5
      · rw [ro (now s + 21) (by omega) (by omega), b 10 (by omega), ro 130 (by omega) (by omega), ro 131 (by omega) (by omega)]; exact u6
      · rw [b 8 (by omega), ro 124 (by omega) (by omega), ro 125 (by omega) (by omega), ro 126 (by omega) (by omega)]; exact e6
      · rw [b 10 (by omega), ro 130 (by omega) (by omega), ro 131 (by omega) (by omega)]; exact e8
      · rw [hs2]; exact OZ_mu (OZ_mu h10 (fun z => by omega)) (fun _ _ => by unfold ln; simp)
  have add : ∀ v, FX7_add N s (now s + 18) v = if s 114 9 < 12 then some (1, mu (mu s (now s + 19) (s 114 9) v) (now s + 18) 1 (s 114 9 + 1)) else some (0, s) := fun v => by
    have := FX7_add_ok (N := N) (q := now s + 18) (s := s) (y := v) (n := 12) (by rw [hsh]; rfl) (by rw [u3]; omega)
    rw [u3] at this; exact this
  have ns : ¬ ((0 ≤ x ∧ x < s 114 3) ∧ (0 ≤ y ∧ y ≤ 10) ∧ isC s z w ∧ s 114 9 < 12) → FX12_wish N s 113 x y z w = some (-2, s) := by
    intro hc
    unfold FX12_wish FX12_wish_b61
    simp only [Nat.reduceAdd]
    rw [if_neg e, rd_ok (by omega) (by omega), Option.bind_some, FX12_isPerson_ok a1.1 a1.2, Option.bind_some]
    by_cases c1 : 0 ≤ x ∧ x < s 114 3
    · rw [if_pos c1, if_neg (by omega), FX12_in_ok, Option.bind_some]
      by_cases c2 : 0 ≤ y ∧ y ≤ 10
      · rw [if_pos c2, if_neg (by omega), FX12_isCell_ok hW.1, Option.bind_some]
        by_cases c3 : isC s z w
        · rw [if_pos c3, if_neg (by omega), if_pos (by
            by_cases c4 : s 114 9 = 12
            · exact c4
            · exact absurd ⟨c1, c2, c3, by omega⟩ hc)]
        · rw [if_neg c3, if_pos rfl]
      · rw [if_neg c2, if_pos rfl]
    · rw [if_neg c1, if_pos rfl]
  have nc : ¬ ((0 ≤ x ∧ x < s 114 3) ∧ (0 ≤ y ∧ y ≤ 10) ∧ isC s z w ∧ s 114 9 < 12) → FX11_wish N s 0 x y z w = some (-2, s) := by
    intro hc
    unfold FX11_wish FX11_wish_b60 FX11_wish_b103
    rw [if_neg e, hq, FX1_cellAt_ok hF hW.1, Option.bind_some, FX2_isPerson_ok hr1.2.1, Option.bind_some]
    by_cases c1 : 0 ≤ x ∧ x < s 114 3
    · rw [if_pos c1, if_neg (by omega)]
      by_cases c2 : y < 0
      · rw [if_pos c2]
      rw [if_neg c2]
      by_cases c5 : 10 < y
      · rw [if_pos c5]
      rw [if_neg c5]
      by_cases c3 : isC s z w
      · have c6 := c3
        unfold isC at c6
        rw [if_pos c3, if_neg (by omega), add, if_neg (by
          intro c4
          exact hc ⟨c1, ⟨by omega, by omega⟩, c3, c4⟩), Option.bind_some]
        exact if_pos rfl
      · rw [if_neg c3, if_pos rfl]
    · rw [if_neg c1, if_pos rfl]
  by_cases C : (0 ≤ x ∧ x < s 114 3) ∧ (0 ≤ y ∧ y ≤ 10) ∧ isC s z w ∧ s 114 9 < 12
  rotate_left
  · exact ⟨-2, s, s, nc C, ns C, HR1_mono (by omega) hI⟩
  obtain ⟨c1, c2, c3, c4⟩ := C
  have c5 := c3
  unfold isC at c5
  obtain ⟨s1, hs1⟩ : ∃ s1, s1 = mu (mu s (now s + 19) (s 114 9) (256 * x + 16 * y + (4 * w + z))) (now s + 18) 1 (s 114 9 + 1) := ⟨_, rfl⟩
  obtain ⟨s2, hs2⟩ : ∃ s2, s2 = mu (mu (mu (mu s1 127 (s 114 9) x) 128 (s 114 9) y) 129 (s 114 9) (4 * w + z)) 114 9 (s 114 9 + 1) := ⟨_, rfl⟩
  have o1 : ∀ a, a ≠ now s + 18 → a ≠ now s + 19 → s1 a = s a := fun a z1 z2 => by rw [hs1, mu_rw z1, mu_rw z2]
  have hb1 : Eb s s1 := fun a z1 z2 => o1 a (by omega) (by omega)
  have k8 : s2 114 9 = s 114 9 + 1 := by rw [hs2, mu_eq]
  have k18 : s2 (now s + 18) 1 = s 114 9 + 1 := by rw [hs2, hs1]; simp (disch := omega) only [mu_ne, mu_eq]
  have k19 : ∀ j, s2 (now s + 19) j = if j = s 114 9 then 256 * x + 16 * y + (4 * w + z) else s (now s + 19) j := fun j => by
    rw [hs2, hs1]
    by_cases q : j = s 114 9
    · rw [if_pos q, q]; simp (disch := omega) only [mu_ne, mu_eq]
    · rw [if_neg q]; simp (disch := omega) only [mu_ne]
  have k27 : ∀ j, s2 127 j = if j = s 114 9 then x else s 127 j := fun j => by
    rw [hs2, hs1]
    by_cases q : j = s 114 9
    · rw [if_pos q, q]; simp (disch := omega) only [mu_ne, mu_eq]
    · rw [if_neg q]; simp (disch := omega) only [mu_ne]
  have k28 : ∀ j, s2 128 j = if j = s 114 9 then y else s 128 j := fun j => by
    rw [hs2, hs1]
    by_cases q : j = s 114 9
    · rw [if_pos q, q]; simp (disch := omega) only [mu_ne, mu_eq]
    · rw [if_neg q]; simp (disch := omega) only [mu_ne]
  have k29 : ∀ j, s2 129 j = if j = s 114 9 then 4 * w + z else s 129 j := fun j => by
    rw [hs2, hs1]
    by_cases q : j = s 114 9
    · rw [if_pos q, q]; simp (disch := omega) only [mu_ne, mu_eq]
    · rw [if_neg q]; simp (disch := omega) only [mu_ne]
  have ro : ∀ a, a ≠ now s + 18 → a ≠ now s + 19 → a ≠ 114 → a ≠ 127 → a ≠ 128 → a ≠ 129 → s2 a = s a := fun a z1 z2 z3 z4 z5 z6 => by rw [hs2, mu_rw z3, mu_rw z6, mu_rw z5, mu_rw z4, o1 a z1 z2]
  have b : ∀ j, j ≠ 9 → s2 114 j = s 114 j := fun j hj => by rw [hs2, hs1]; simp (disch := omega) only [mu_ne]
  refine ⟨s 114 9 + 1, s1, s2, ?_, ?_, ?_⟩
  · unfold FX11_wish FX11_wish_b103
    rw [if_neg e, hq, FX1_cellAt_ok hF hW.1, Option.bind_some, FX2_isPerson_ok hr1.2.1, Option.bind_some, if_pos c1, if_neg (by omega), if_neg (by omega), if_neg (by omega), if_pos c3, if_neg (by omega), wk_code (by omega) (by omega) (by omega) (by omega) (by omega) (by omega), add, if_pos c4, Option.bind_some]
    show (if (1 : Int) = 0 then _ else _) = _
    rw [if_neg (by omega)]
    dsimp only
    rw [← hs1]
    have : (s1 0 4).toNat = now s := by rw [o1 0 (by omega) (by omega)]; rfl
    rw [this]
    congr 2
    rw [hs1, mu_eq]
  · unfold FX12_wish
    simp only [Nat.reduceAdd]
    have e114 : s1 114 = s 114 := hb1 114 (by omega) (by omega)
    rw [if_neg e, rd_ok (by omega) (by omega), Option.bind_some, FX12_isPerson_ok (by rw [e114]; exact a1.1) (by rw [e114]; exact a1.2), Option.bind_some, e114, if_pos c1, if_neg (by omega), FX12_in_ok, Option.bind_some, if_pos c2, if_neg (by omega), FX12_isCell_ok (eb_Wa hb1 hW.1), Option.bind_some, if_pos (show isC s1 z w by unfold isC; rw [e114]; exact c3), if_neg (by omega), if_neg (by omega), wr_ok (by omega) (by omega), Option.bind_some, wr_ok (by omega) (by omega), Option.bind_some, wr_ok (by omega) (by omega), Option.bind_some, rd_ok (by omega) (by omega), Option.bind_some, wr_ok (by omega) (by omega), Option.bind_some]
    simp (disch := omega) only [mu_ne]
    rw [e114, w32_id (by omega) (by omega), w32_id (x := 4 * w) (by omega) (by omega), w32_id (by omega) (by omega), hs2]
  · refine Inv_tail hI t0 (fun i hi => by rw [ro 0 (by omega) (by omega) (by omega) (by omega) (by omega) (by omega)]) (Or.inl (by rw [ro 0 (by omega) (by omega) (by omega) (by omega) (by omega) (by omega)])) (fun a z0 z1 z2 z3 => ro a (by omega) (by omega) z2 (by omega) (by omega) (by omega)) (fun j _ j9 _ => b j j9) ⟨?_, ?_, by rw [k18, k8], fun j j0 j1 => ?_, ?_, ?_⟩ (by rw [b 8 (by omega)]; exact a6) (by omega) (by rw [b 10 (by omega)]; exact a8) ?_ (fun j j0 j1 => ?_) ?_ ?_ (fun _ => ⟨b 10 (by omega), ro 130 (by omega) (by omega) (by omega) (by omega) (by omega) (by omega), ro 131 (by omega) (by omega) (by omega) (by omega) (by omega) (by omega)⟩)
    · rw [ro (now s + 16) (by omega) (by omega) (by omega) (by omega) (by omega) (by omega), b 8 (by omega)]; exact u1
    · rw [ro (now s + 17) (by omega) (by omega) (by omega) (by omega) (by omega) (by omega), b 8 (by omega), ro 124 (by omega) (by omega) (by omega) (by omega) (by omega) (by omega), ro 125 (by omega) (by omega) (by omega) (by omega) (by omega) (by omega), ro 126 (by omega) (by omega) (by omega) (by omega) (by omega) (by omega)]; exact u2
    · rw [k19, k27, k28, k29]
      by_cases q : j = s 114 9
      · rw [if_pos q, if_pos q, if_pos q, if_pos q]
      · rw [if_neg q, if_neg q, if_neg q, if_neg q]; exact u4 j j0 (by omega)
    · rw [ro (now s + 20) (by omega) (by omega) (by omega) (by omega) (by omega) (by omega), b 10 (by omega)]; exact u5
    · rw [ro (now s + 21) (by omega) (by omega) (by omega) (by omega) (by omega) (by omega), b 10 (by omega), ro 130 (by omega) (by omega) (by omega) (by omega) (by omega) (by omega), ro 131 (by omega) (by omega) (by omega) (by omega) (by omega) (by omega)]; exact u6
    · rw [b 8 (by omega), ro 124 (by omega) (by omega) (by omega) (by omega) (by omega) (by omega), ro 125 (by omega) (by omega) (by omega) (by omega) (by omega) (by omega), ro 126 (by omega) (by omega) (by omega) (by omega) (by omega) (by omega)]; exact e6
    · rw [k27, k28, k29]
      by_cases q : j = s 114 9
      · rw [if_pos q, if_pos q, if_pos q]; omega
      · rw [if_neg q, if_neg q, if_neg q]; exact e7 j j0 (by omega)
    · rw [b 10 (by omega), ro 130 (by omega) (by omega) (by omega) (by omega) (by omega) (by omega), ro 131 (by omega) (by omega) (by omega) (by omega) (by omega) (by omega)]; exact e8
    · rw [hs2, hs1]; exact OZ_mu (OZ_mu (OZ_mu (OZ_mu (OZ_mu (OZ_mu h10 (fun z => by omega)) (fun z => by omega)) (fun _ _ => by unfold ln; simp; omega)) (fun _ _ => by unfold ln; simp; omega)) (fun _ _ => by unfold ln; simp; omega)) (fun _ _ => by unfold ln; simp)
theorem ct_woke {t : Int} {N : Nat} {s : iv_M} {x y z : Int} (h : Inv t s) (t0 : 0 ≤ t) (t1 : t ≤ 1000) : ∃ a s1 s2, FX11_woke N s 0 x y z = some (a, s1) ∧ FX12_woke N s1 113 x y z = some (a, s2) ∧ Inv (t + 1) s2 := by
  have hI := h
  obtain ⟨h1, ⟨hr1, ⟨hF, hP⟩, hK, _, _, ⟨u1, u2, u3, u4, u5, u6⟩⟩, ⟨hW, ⟨a1, _, _, _, _, a6, a7, a8, _⟩, ⟨_, _, _, _, _, e6, e7, e8⟩⟩, _, _, _, _, _, h9, h10⟩ := h
  obtain ⟨n1, n2, n3⟩ := now_ne h1
  have hq : (s 0 4).toNat = now s := rfl
  have h15 := h9.1
  have hsh := (HQ_rows (now_HQ h1).1).2.2.2.2.2
  obtain ⟨v1, v2, v3, v4, v5, hr2, _⟩ := hW.1
  by_cases e : x = -1
  · obtain ⟨s1, hs1⟩ : ∃ s1, s1 = mu (mu s (now s + 20) 1 0) 0 15 (s 0 15 + 1) := ⟨_, rfl⟩
    obtain ⟨s2, hs2⟩ : ∃ s2, s2 = mu s1 114 10 0 := ⟨_, rfl⟩
    have k8 : s2 114 10 = 0 := by rw [hs2, mu_eq]
    have k16 : s2 (now s + 20) 1 = 0 := by rw [hs2, hs1, mu_ne (by omega), mu_ne (by omega), mu_eq]
    have k15 : s2 0 15 = s 0 15 + 1 := by rw [hs2, hs1, mu_ne (by omega), mu_eq]
    have r0 : ∀ i, i ≠ 15 → s2 0 i = s 0 i := fun i hi => by rw [hs2, hs1]; simp (disch := omega) only [mu_ne]
    have ro : ∀ a, a ≠ 0 → a ≠ now s + 20 → a ≠ 114 → s2 a = s a := fun a z0 z1 z2 => by rw [hs2, hs1, mu_rw z2, mu_rw z0, mu_rw z1]
    have b : ∀ j, j ≠ 10 → s2 114 j = s 114 j := fun j hj => by rw [hs2, hs1]; simp (disch := omega) only [mu_ne]
    refine ⟨0, s1, s2, ?_, ?_, ?_⟩
    · unfold FX11_woke; rw [if_pos e, hq, pt_ok, Option.bind_some, pt_ok, Option.bind_some, mu_ne (by omega), w32_id (by omega) (by omega), hs1]
    · unfold FX12_woke
      simp only [Nat.reduceAdd]
      rw [if_pos e, wr_ok (by omega) (by omega), Option.bind_some, hs2]
    · refine Inv_tail hI t0 r0 (Or.inr k15) (fun a z0 z1 z2 z3 => ro a z0 (by omega) z2) (fun j _ _ j10 => b j j10) ⟨?_, ?_, ?_, ?_, by rw [k16, k8], fun j j0 j1 => by omega⟩ (by rw [b 8 (by omega)]; exact a6) (by rw [b 9 (by omega)]; exact a7) (by omega) ?_ ?_ (fun j j0 j1 => by omega) ?_ (fun z => by omega)
      · rw [ro (now s + 16) (by omega) (by omega) (by omega), b 8 (by omega)]; exact u1
      · rw [ro (now s + 17) (by omega) (by omega) (by omega), b 8 (by omega), ro 124 (by omega) (by omega) (by omega), ro 125 (by omega) (by omega) (by omega), ro 126 (by omega) (by omega) (by omega)]; exact u2
      · rw [ro (now s + 18) (by omega) (by omega) (by omega), b 9 (by omega)]; exact u3
      · rw [ro (now s + 19) (by omega) (by omega) (by omega), b 9 (by omega), ro 127 (by omega) (by omega) (by omega), ro 128 (by omega) (by omega) (by omega), ro 129 (by omega) (by omega) (by omega)]; exact u4
      · rw [b 8 (by omega), ro 124 (by omega) (by omega) (by omega), ro 125 (by omega) (by omega) (by omega), ro 126 (by omega) (by omega) (by omega)]; exact e6
      · rw [b 9 (by omega), ro 127 (by omega) (by omega) (by omega), ro 128 (by omega) (by omega) (by omega), ro 129 (by omega) (by omega) (by omega)]; exact e7
      · rw [hs2, hs1]; exact OZ_mu (OZ_mu (OZ_mu h10 (fun z => by omega)) (fun z => by omega)) (fun _ _ => by unfold ln; simp)
  have add : ∀ v, FX7_add N s (now s + 20) v = if s 114 10 < 8 then some (1, mu (mu s (now s + 21) (s 114 10) v) (now s + 20) 1 (s 114 10 + 1)) else some (0, s) := fun v => by
    have := FX7_add_ok (N := N) (q := now s + 20) (s := s) (y := v) (n := 8) (by rw [hsh]; rfl) (by rw [u5]; omega)
    rw [u5] at this; exact this
  have ns : ¬ ((0 ≤ x ∧ x < s 114 2) ∧ isC s y z ∧ s 114 10 < 8) → FX12_woke N s 113 x y z = some (-2, s) := by
    intro hc
    unfold FX12_woke FX12_woke_b48
    simp only [Nat.reduceAdd]
    rw [if_neg e, rd_ok (by omega) (by omega), Option.bind_some, FX12_isRoom_ok hW.1, Option.bind_some]
    by_cases c1 : 0 ≤ x ∧ x < s 114 2
    · rw [if_pos c1, if_neg (by omega), FX12_isCell_ok hW.1, Option.bind_some]
      by_cases c3 : isC s y z
      · rw [if_pos c3, if_neg (by omega), if_pos (by
          by_cases c4 : s 114 10 = 8
          · exact c4
          · exact absurd ⟨c1, c3, by omega⟩ hc)]
      · rw [if_neg c3, if_pos rfl]
    · rw [if_neg c1, if_pos rfl]
  have nc : ¬ ((0 ≤ x ∧ x < s 114 2) ∧ isC s y z ∧ s 114 10 < 8) → FX11_woke N s 0 x y z = some (-2, s) := by
    intro hc
    unfold FX11_woke FX11_woke_b79
    rw [if_neg e, hq, FX1_cellAt_ok hF hW.1, Option.bind_some, FX2_isRoom_ok hF, Option.bind_some]
    by_cases c1 : 0 ≤ x ∧ x < s 114 2
    · rw [if_pos c1, if_neg (by omega)]
      by_cases c3 : isC s y z
      · have c6 := c3
        unfold isC at c6
        rw [if_pos c3, if_neg (by omega), add, if_neg (by
          intro c4
          exact hc ⟨c1, c3, c4⟩), Option.bind_some]
        exact if_pos rfl
      · rw [if_neg c3, if_pos rfl]
    · rw [if_neg c1, if_pos rfl]
  by_cases C : (0 ≤ x ∧ x < s 114 2) ∧ isC s y z ∧ s 114 10 < 8
  rotate_left
  · exact ⟨-2, s, s, nc C, ns C, HR1_mono (by omega) hI⟩
  obtain ⟨c1, c3, c4⟩ := C
  have c5 := c3
  unfold isC at c5
  have code : bOr (sl32 x 4) (4 * z + y) = 16 * x + (4 * z + y) := by
    have h0 : bOr (bOr (sl32 0 8) (sl32 x 4)) (4 * z + y) = _ := wk_code (k := 0) (r := x) (o := 4 * z + y) (by omega) (by omega) (by omega) (by omega) (by omega) (by omega)
    have h1 : bOr (sl32 0 8) (sl32 x 4) = sl32 x 4 := by
      have e1 : sl32 x 4 = x * 2 ^ 4 := sl32_lit (k := 4) (by decide) (by omega) (by omega)
      have e0 : sl32 0 8 = 0 := by decide
      rw [e0, bOr_comm, bOr_zero (by omega) (by omega)]
    rw [h1] at h0; omega
  obtain ⟨s1, hs1⟩ : ∃ s1, s1 = mu (mu (mu s (now s + 21) (s 114 10) (16 * x + (4 * z + y))) (now s + 20) 1 (s 114 10 + 1)) 0 15 (s 0 15 + 1) := ⟨_, rfl⟩
  obtain ⟨s2, hs2⟩ : ∃ s2, s2 = mu (mu (mu s1 130 (s 114 10) x) 131 (s 114 10) (4 * z + y)) 114 10 (s 114 10 + 1) := ⟨_, rfl⟩
  have o1 : ∀ a, a ≠ 0 → a ≠ now s + 20 → a ≠ now s + 21 → s1 a = s a := fun a z0 z1 z2 => by rw [hs1, mu_rw z0, mu_rw z1, mu_rw z2]
  have hb1 : Eb s s1 := fun a z1 z2 => o1 a (by omega) (by omega) (by omega)
  have k8 : s2 114 10 = s 114 10 + 1 := by rw [hs2, mu_eq]
  have k15 : s2 0 15 = s 0 15 + 1 := by rw [hs2, hs1]; simp (disch := omega) only [mu_ne, mu_eq]
  have r0 : ∀ i, i ≠ 15 → s2 0 i = s 0 i := fun i hi => by rw [hs2, hs1]; simp (disch := omega) only [mu_ne]
  have k20 : s2 (now s + 20) 1 = s 114 10 + 1 := by rw [hs2, hs1]; simp (disch := omega) only [mu_ne, mu_eq]
  have k21 : ∀ j, s2 (now s + 21) j = if j = s 114 10 then 16 * x + (4 * z + y) else s (now s + 21) j := fun j => by
    rw [hs2, hs1]
    by_cases q : j = s 114 10
    · rw [if_pos q, q]; simp (disch := omega) only [mu_ne, mu_eq]
    · rw [if_neg q]; simp (disch := omega) only [mu_ne]
  have k30 : ∀ j, s2 130 j = if j = s 114 10 then x else s 130 j := fun j => by
    rw [hs2, hs1]
    by_cases q : j = s 114 10
    · rw [if_pos q, q]; simp (disch := omega) only [mu_ne, mu_eq]
    · rw [if_neg q]; simp (disch := omega) only [mu_ne]
  have k31 : ∀ j, s2 131 j = if j = s 114 10 then 4 * z + y else s 131 j := fun j => by
    rw [hs2, hs1]
    by_cases q : j = s 114 10
    · rw [if_pos q, q]; simp (disch := omega) only [mu_ne, mu_eq]
    · rw [if_neg q]; simp (disch := omega) only [mu_ne]
  have ro : ∀ a, a ≠ 0 → a ≠ now s + 20 → a ≠ now s + 21 → a ≠ 114 → a ≠ 130 → a ≠ 131 → s2 a = s a := fun a z0 z1 z2 z3 z4 z5 => by rw [hs2, mu_rw z3, mu_rw z5, mu_rw z4, o1 a z0 z1 z2]
  have b : ∀ j, j ≠ 10 → s2 114 j = s 114 j := fun j hj => by rw [hs2, hs1]; simp (disch := omega) only [mu_ne]
  refine ⟨s 114 10 + 1, s1, s2, ?_, ?_, ?_⟩
  · unfold FX11_woke
    rw [if_neg e, hq, FX1_cellAt_ok hF hW.1, Option.bind_some, FX2_isRoom_ok hF, Option.bind_some, if_pos c1, if_neg (by omega), if_pos c3, if_neg (by omega), code, add, if_pos c4, Option.bind_some]
    show (if (1 : Int) = 0 then _ else _) = _
    rw [if_neg (by omega), pt_ok, Option.bind_some]
    dsimp only
    have q15 : mu (mu s (now s + 21) (s 114 10) (16 * x + (4 * z + y))) (now s + 20) 1 (s 114 10 + 1) 0 15 = s 0 15 := by rw [mu_ne (by omega), mu_ne (by omega)]
    rw [q15, w32_id (by omega) (by omega), ← hs1]
    have : (s1 0 4).toNat = now s := by rw [hs1]; simp (disch := omega) only [mu_ne]; rfl
    rw [this]
    congr 2
    rw [hs1]; simp (disch := omega) only [mu_ne, mu_eq]
  · unfold FX12_woke
    simp only [Nat.reduceAdd]
    have e114 : s1 114 = s 114 := hb1 114 (by omega) (by omega)
    rw [if_neg e, rd_ok (by omega) (by omega), Option.bind_some, FX12_isRoom_ok (eb_Wa hb1 hW.1), Option.bind_some, e114, if_pos c1, if_neg (by omega), FX12_isCell_ok (eb_Wa hb1 hW.1), Option.bind_some, if_pos (show isC s1 y z by unfold isC; rw [e114]; exact c3), if_neg (by omega), if_neg (by omega), wr_ok (by omega) (by omega), Option.bind_some, wr_ok (by omega) (by omega), Option.bind_some, rd_ok (by omega) (by omega), Option.bind_some, wr_ok (by omega) (by omega), Option.bind_some]
    simp (disch := omega) only [mu_ne]
    rw [e114, w32_id (by omega) (by omega), w32_id (x := 4 * z) (by omega) (by omega), w32_id (by omega) (by omega), hs2]
  · refine Inv_tail hI t0 r0 (Or.inr k15) (fun a z0 z1 z2 z3 => ro a z0 (by omega) (by omega) z2 (by omega) (by omega)) (fun j _ _ j10 => b j j10) ⟨?_, ?_, ?_, ?_, by rw [k20, k8], fun j j0 j1 => ?_⟩ (by rw [b 8 (by omega)]; exact a6) (by rw [b 9 (by omega)]; exact a7) (by omega) ?_ ?_ (fun j j0 j1 => ?_) ?_ (fun z => by omega)
    · rw [ro (now s + 16) (by omega) (by omega) (by omega) (by omega) (by omega) (by omega), b 8 (by omega)]; exact u1
    · rw [ro (now s + 17) (by omega) (by omega) (by omega) (by omega) (by omega) (by omega), b 8 (by omega), ro 124 (by omega) (by omega) (by omega) (by omega) (by omega) (by omega), ro 125 (by omega) (by omega) (by omega) (by omega) (by omega) (by omega), ro 126 (by omega) (by omega) (by omega) (by omega) (by omega) (by omega)]; exact u2
    · rw [ro (now s + 18) (by omega) (by omega) (by omega) (by omega) (by omega) (by omega), b 9 (by omega)]; exact u3
    · rw [ro (now s + 19) (by omega) (by omega) (by omega) (by omega) (by omega) (by omega), b 9 (by omega), ro 127 (by omega) (by omega) (by omega) (by omega) (by omega) (by omega), ro 128 (by omega) (by omega) (by omega) (by omega) (by omega) (by omega), ro 129 (by omega) (by omega) (by omega) (by omega) (by omega) (by omega)]; exact u4
    · rw [k21, k30, k31]
      by_cases q : j = s 114 10
      · rw [if_pos q, if_pos q, if_pos q]
      · rw [if_neg q, if_neg q, if_neg q]; exact u6 j j0 (by omega)
    · rw [b 8 (by omega), ro 124 (by omega) (by omega) (by omega) (by omega) (by omega) (by omega), ro 125 (by omega) (by omega) (by omega) (by omega) (by omega) (by omega), ro 126 (by omega) (by omega) (by omega) (by omega) (by omega) (by omega)]; exact e6
    · rw [b 9 (by omega), ro 127 (by omega) (by omega) (by omega) (by omega) (by omega) (by omega), ro 128 (by omega) (by omega) (by omega) (by omega) (by omega) (by omega), ro 129 (by omega) (by omega) (by omega) (by omega) (by omega) (by omega)]; exact e7
    · rw [k30, k31]
      by_cases q : j = s 114 10
      · rw [if_pos q, if_pos q]; omega
      · rw [if_neg q, if_neg q]; exact e8 j j0 (by omega)
    · rw [hs2, hs1]; exact OZ_mu (OZ_mu (OZ_mu (OZ_mu (OZ_mu (OZ_mu h10 (fun z => by omega)) (fun z => by omega)) (fun z => by omega)) (fun _ _ => by unfold ln; simp; omega)) (fun _ _ => by unfold ln; simp; omega)) (fun _ _ => by unfold ln; simp)
