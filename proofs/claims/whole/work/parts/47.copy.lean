-- ARRANGING AND COPYING a floor
theorem FRx_mono {X Y : Int → Prop} {s B : iv_M} {q : Nat} (h : FRx X s q B) (hXY : ∀ c, 0 ≤ c → c < 16 → ¬ Y c → ¬ X c) : FRx Y s q B := by
  obtain ⟨f0, f1, f2, f3, f4, f5, f6, f7⟩ := h
  exact ⟨f0, f1, f2, fun c c0 c1 hx => f3 c c0 c1 (hXY c c0 c1 hx), fun c d c0 c1 d0 d1 hx => f4 c d c0 c1 d0 d1 (hXY c c0 c1 hx), f5, f6, fun c c0 c1 hx => f7 c c0 c1 (hXY c c0 c1 hx)⟩
theorem Wf.room {B : iv_M} (h : Wf B) {r : Int} (r0 : 0 ≤ r) (r1 : r < B 114 2) : 0 ≤ B 116 r ∧ B 116 r < 16 ∧ B 121 (B 116 r) = r ∧ 0 ≤ B 117 r ∧ B 117 r < 4 ∧ B 116 r % 4 < B 114 0 ∧ B 116 r / 4 < B 114 1 := by
  obtain ⟨h1, h2, h3⟩ := h
  obtain ⟨a, b, c⟩ := h3 r r0 r1
  rcases h2 (B 116 r) a b with e | e
  · omega
  · rw [c] at e
    exact ⟨a, b, c, e.2.2.2.1, e.2.2.2.2.1, e.2.2.2.2.2.1, e.2.2.2.2.2.2⟩
theorem FX1_arrange_ok {N q : Nat} {s B : iv_M} {y x : Int} (hN : 100 ≤ N) (hT : TF q) (hW : Wf B) (d0 : s q 0 = B 114 0) (d1 : s q 1 = B 114 1) (d2 : s q 2 = B 114 2) (hn : ∀ c d, 0 ≤ c → c < 16 → 0 ≤ d → d < 4 → s (q + 6) (4 * c + d) = nb B c d) (hs : ∀ j, 0 ≤ j → j < 4 * B 114 2 → s (q + 4) j = B 115 j) (hy : y = pkd 4 (B 116) (B 114 2).toNat) (hx : x = pkd 2 (B 117) (B 114 2).toNat) : ∃ s', FX1_arrange N s q y x = some s' ∧ FRc s' q B ∧ FP s' q B ∧ Fo q (q + 5) s s' := by
  obtain ⟨g1, g2⟩ := hW.dig
  have hr := hW.1.2.2.2.2.1
  have hr2 := hW.1.2.2.2.2.2.1
  unfold FX1_arrange
  rw [pt_ok, Option.bind_some, pt_ok, Option.bind_some, FX1_sweep_ok hT hN, Option.bind_some]
  have hI : FRx (fun c => B 121 c ≠ -1 ∧ 0 ≤ B 121 c) (flM (flM (mu (mu s q 3 0) q 4 0) (q + 3) 16 (-1)) (q + 5) 64 3) q B ∧ flM (flM (mu (mu s q 3 0) q 4 0) (q + 3) 16 (-1)) (q + 5) 64 3 q 3 = pkd 4 (B 116) (0 : Int).toNat ∧ flM (flM (mu (mu s q 3 0) q 4 0) (q + 3) 16 (-1)) (q + 5) 64 3 q 4 = pkd 2 (B 117) (0 : Int).toNat ∧ Fo q (q + 5) s (flM (flM (mu (mu s q 3 0) q 4 0) (q + 3) 16 (-1)) (q + 5) 64 3) ∧ (0 : Int) ≤ 0 := by
    refine ⟨⟨?_, ?_, ?_, ?_, ?_, ?_, ?_, ?_⟩, ?_, ?_, ?_, by omega⟩
    · simp (disch := omega) only [fl_ne, mu_ne]; exact d0
    · simp (disch := omega) only [fl_ne, mu_ne]; exact d1
    · simp (disch := omega) only [fl_ne, mu_ne]; exact d2
    · intro c c0 c1 hc
      simp (disch := omega) only [fl_ne, fl_eq]
      rcases hW.2.1 c c0 c1 with e3 | e3 <;> omega
    · intro c d c0 c1 d0 d1 hc
      simp (disch := omega) only [fl_eq]
      unfold kd
      rw [if_pos (by rcases hW.2.1 c c0 c1 with e3 | e3 <;> omega)]
    · intro c d c0 c1 d0 d1
      simp (disch := omega) only [fl_ne, mu_ne]; exact hn c d c0 c1 d0 d1
    · intro j j0 j1
      simp (disch := omega) only [fl_ne, mu_ne]; exact hs j j0 j1
    · intro c c0 c1 hc hc'
      rcases hW.2.1 c c0 c1 with e3 | e3 <;> omega
    · simp (disch := omega) only [fl_ne, mu_ne, mu_eq]; rfl
    · simp (disch := omega) only [fl_ne, mu_eq]; rfl
    · intro a i ha
      simp (disch := omega) only [fl_ne, mu_ne]
  obtain ⟨z, e1, e2⟩ := loop_up (L := fun n z i => FX1_arrange_l17 N q y x (fun (s_180 : iv_M) => some s_180) n z i) (k := fun z => some z) (hi := B 114 2) (fun k z => FRx (fun c => B 121 c ≠ -1 ∧ k ≤ B 121 c) z q B ∧ z q 3 = pkd 4 (B 116) k.toNat ∧ z q 4 = pkd 2 (B 117) k.toNat ∧ Fo q (q + 5) s z ∧ 0 ≤ k) (fun n z hz => by
      show FX1_arrange_l17 N q y x (fun (s_180 : iv_M) => some s_180) (n + 1) z (B 114 2) = some z
      rw [FX1_arrange_l17, if_pos (by have := hz.1.2.2.1; omega)]) (fun n k z hz hk => by
      obtain ⟨z1, z2, z3, z4, k0⟩ := hz
      obtain ⟨r1, r2, r3, r4, r5, r6, r7⟩ := hW.room k0 hk
      refine ⟨putM z q k (B 116 k) (B 117 k), ?_, FRx_mono (put_fr z1 ⟨k0, hk⟩ r3 rfl (fun c' c0 c1 hx' hc' e => ?_) r4 r5) (fun c c0 c1 hc hc' => ?_), ?_, ?_, fun a i ha => ?_, by omega⟩
      · show FX1_arrange_l17 N q y x (fun (s_180 : iv_M) => some s_180) (n + 1) z k = FX1_arrange_l17 N q y x (fun (s_180 : iv_M) => some s_180) n _ (k + 1)
        rw [FX1_arrange_l17, if_neg (by have := z1.2.2.1; omega), hy, hx, w32_id (x := 4 * k) (by omega) (by omega), w32_id (x := 2 * k) (by omega) (by omega), pk4_get (by omega) g1 k0 (by omega), pk2_get (by omega) g2 k0 (by omega), FX1_put_ok (by omega) hT.2.2.1 k0 (by omega) r1 r2 r4 r5, Option.bind_some, w32_id (by omega) (by omega)]
      · rcases hW.2.1 c' c0 c1 with e3 | e3
        · omega
        · rw [e] at e3; exact hc' e3.2.2.1.symm
      · obtain ⟨⟨a1, a2⟩, a3⟩ := hc'
        refine hc ⟨a1, ?_⟩
        rcases hW.2.1 c c0 c1 with e3 | e3
        · omega
        · by_cases e4 : B 121 c = k
          · rw [e4] at e3; exact absurd e3.2.2.1.symm a3
          · omega
      · rw [pm_03, z2]
        have := pk4_app (f := B 116) (n := k.toNat) (by omega) (fun i i0 i1 => g1 i i0 (by omega))
        rw [Int.toNat_of_nonneg k0] at this
        rw [this, show (k + 1).toNat = k.toNat + 1 by omega]
      · rw [pm_04, z3]
        have := pk2_app (f := B 117) (n := k.toNat) (by omega) (fun i i0 i1 => g2 i i0 (by omega))
        rw [Int.toNat_of_nonneg k0] at this
        rw [this, show (k + 1).toNat = k.toNat + 1 by omega]
      · rw [pm_out (by omega), z4 a i ha]) N 0 (flM (flM (mu (mu s q 3 0) q 4 0) (q + 3) 16 (-1)) (q + 5) 64 3) hI (by omega) (by omega)
  obtain ⟨z1, z2, z3, z4, _⟩ := e1
  refine ⟨z, e2, FRx_c z1 (fun c c0 c1 hc => ?_), ⟨z2, z3⟩, z4⟩
  rcases hW.2.1 c c0 c1 with e3 | e3 <;> omega
theorem cp_ok {s : iv_M} {a b : Nat} {la i lb j n : Int} (h1 : 0 ≤ i) (h2 : 0 ≤ j) (h3 : 0 ≤ n) (h4 : i + n ≤ la) (h5 : j + n ≤ lb) : cp s a la i b lb j n = some (cpm s a i b j n) := if_pos ⟨h1, h2, h3, h4, h5⟩
theorem cpm_in {s : iv_M} {a b : Nat} {i j n k : Int} (h1 : j ≤ k) (h2 : k < j + n) : cpm s a i b j n b k = s a (k - j + i) := if_pos ⟨rfl, h1, h2⟩
theorem FX1_copyFrom_ok {N q p : Nat} {s B : iv_M} (hN : 100 ≤ N) (hT : TF q) (hW : Wf B) (hpq : p + 6 < q ∨ q + 6 < p) (hF : FRc s p B) (hP : FP s p B) : ∃ s', FX1_copyFrom N s q p = some s' ∧ FRc s' q B ∧ FP s' q B ∧ Fo q (q + 6) s s' := by
  obtain ⟨f0, f1, f2, f3, f4, f5, f6, f7⟩ := hF
  have hr := hW.1.2.2.2.2.1
  have hr2 := hW.1.2.2.2.2.2.1
  unfold FX1_copyFrom
  simp (disch := omega) only [pt_ok, Option.bind_some, cp_ok, mu_ne, cpm_ne]
  obtain ⟨s', e1, e2, e3, e4⟩ := FX1_arrange_ok (s := cpm (cpm (mu (mu (mu s q 0 (s p 0)) q 1 (s p 1)) q 2 (s p 2)) (p + 4) 0 (q + 4) 0 48) (p + 6) 0 (q + 6) 0 64) (q := q) (y := s p 3) (x := s p 4) (B := B) hN hT hW (by simp (disch := omega) only [cpm_ne, mu_ne, mu_eq]; exact f0) (by simp (disch := omega) only [cpm_ne, mu_ne, mu_eq]; exact f1) (by simp (disch := omega) only [cpm_ne, mu_ne, mu_eq]; exact f2) (fun c d c0 c1 d0 d1 => by
      rw [cpm_in (by omega) (by omega), cpm_ne (by omega)]
      simp (disch := omega) only [mu_ne]
      rw [show 4 * c + d - 0 + 0 = 4 * c + d by omega]; exact f5 c d c0 c1 d0 d1) (fun j j0 j1 => by
      rw [cpm_ne (by omega), cpm_in (by omega) (by omega)]
      simp (disch := omega) only [mu_ne]
      rw [show j - 0 + 0 = j by omega]; exact f6 j j0 j1) hP.1 hP.2
  rw [e1, Option.bind_some]
  refine ⟨s', rfl, e2, e3, fun a i ha => ?_⟩
  rw [e4 a i (by omega)]
  simp (disch := omega) only [cpm_ne, mu_ne]
