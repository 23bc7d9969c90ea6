-- MISMATCHES AS THE REFERENCE COUNTS THEM, and the first of them
def mk (K : Int → Int → Int) (c d : Int) : Int := if K c d = 3 then 0 else if gk K c d = 3 then (if K c d = 1 then 1 else 0) else if (d = 1 ∨ d = 2) ∧ K c d ≠ gk K c d then 1 else 0
theorem em_in {K : Int → Int → Int} {c d n d' : Int} (hd : d = 1 ∨ d = 2) (hg : gk K c d = K n d') (hg' : gk K n d' = K c d) (hd' : d' = 3 ∨ d' = 0) : ek K c d = mk K c d + mk K n d' := by
  unfold ek mk bd
  rw [hg, hg']
  generalize K c d = a
  generalize K n d' = b
  by_cases h1 : a = 3 <;> by_cases h2 : b = 3 <;> by_cases h3 : a = b <;> by_cases h4 : a = 1 <;> by_cases h5 : b = 1 <;> rcases hd with rfl | rfl <;> rcases hd' with rfl | rfl <;> simp_all
theorem em_bd {K : Int → Int → Int} {c d : Int} (hg : gk K c d = 3) : ek K c d = mk K c d := by
  unfold ek mk bd
  rw [hg]
  generalize K c d = a
  by_cases h1 : a = 3 <;> by_cases h4 : a = 1 <;> simp_all
set_option maxHeartbeats 4000000 in
theorem kmm_mk (K : Int → Int → Int) : su (fun j => mk K (j / 4) (j % 4)) 64 = kmm K := by
  have r0 := em_in (K := K) (c := 0) (d := 1) (n := 1) (d' := 3) (by omega) (by simp [gk, dxx, dyy]) (by simp [gk, dxx, dyy]) (by omega)
  have d0 := em_in (K := K) (c := 0) (d := 2) (n := 4) (d' := 0) (by omega) (by simp [gk, dxx, dyy]) (by simp [gk, dxx, dyy]) (by omega)
  have u0 := em_bd (K := K) (c := 0) (d := 0) (by simp [gk])
  have l0 := em_bd (K := K) (c := 0) (d := 3) (by simp [gk])
  have r1 := em_in (K := K) (c := 1) (d := 1) (n := 2) (d' := 3) (by omega) (by simp [gk, dxx, dyy]) (by simp [gk, dxx, dyy]) (by omega)
  have d1 := em_in (K := K) (c := 1) (d := 2) (n := 5) (d' := 0) (by omega) (by simp [gk, dxx, dyy]) (by simp [gk, dxx, dyy]) (by omega)
  have u1 := em_bd (K := K) (c := 1) (d := 0) (by simp [gk])
  have r2 := em_in (K := K) (c := 2) (d := 1) (n := 3) (d' := 3) (by omega) (by simp [gk, dxx, dyy]) (by simp [gk, dxx, dyy]) (by omega)
  have d2 := em_in (K := K) (c := 2) (d := 2) (n := 6) (d' := 0) (by omega) (by simp [gk, dxx, dyy]) (by simp [gk, dxx, dyy]) (by omega)
  have u2 := em_bd (K := K) (c := 2) (d := 0) (by simp [gk])
  have r3 := em_bd (K := K) (c := 3) (d := 1) (by simp [gk])
  have d3 := em_in (K := K) (c := 3) (d := 2) (n := 7) (d' := 0) (by omega) (by simp [gk, dxx, dyy]) (by simp [gk, dxx, dyy]) (by omega)
  have u3 := em_bd (K := K) (c := 3) (d := 0) (by simp [gk])
  have r4 := em_in (K := K) (c := 4) (d := 1) (n := 5) (d' := 3) (by omega) (by simp [gk, dxx, dyy]) (by simp [gk, dxx, dyy]) (by omega)
  have d4 := em_in (K := K) (c := 4) (d := 2) (n := 8) (d' := 0) (by omega) (by simp [gk, dxx, dyy]) (by simp [gk, dxx, dyy]) (by omega)
  have l4 := em_bd (K := K) (c := 4) (d := 3) (by simp [gk])
  have r5 := em_in (K := K) (c := 5) (d := 1) (n := 6) (d' := 3) (by omega) (by simp [gk, dxx, dyy]) (by simp [gk, dxx, dyy]) (by omega)
  have d5 := em_in (K := K) (c := 5) (d := 2) (n := 9) (d' := 0) (by omega) (by simp [gk, dxx, dyy]) (by simp [gk, dxx, dyy]) (by omega)
  have r6 := em_in (K := K) (c := 6) (d := 1) (n := 7) (d' := 3) (by omega) (by simp [gk, dxx, dyy]) (by simp [gk, dxx, dyy]) (by omega)
  have d6 := em_in (K := K) (c := 6) (d := 2) (n := 10) (d' := 0) (by omega) (by simp [gk, dxx, dyy]) (by simp [gk, dxx, dyy]) (by omega)
  have r7 := em_bd (K := K) (c := 7) (d := 1) (by simp [gk])
  have d7 := em_in (K := K) (c := 7) (d := 2) (n := 11) (d' := 0) (by omega) (by simp [gk, dxx, dyy]) (by simp [gk, dxx, dyy]) (by omega)
  have r8 := em_in (K := K) (c := 8) (d := 1) (n := 9) (d' := 3) (by omega) (by simp [gk, dxx, dyy]) (by simp [gk, dxx, dyy]) (by omega)
  have d8 := em_in (K := K) (c := 8) (d := 2) (n := 12) (d' := 0) (by omega) (by simp [gk, dxx, dyy]) (by simp [gk, dxx, dyy]) (by omega)
  have l8 := em_bd (K := K) (c := 8) (d := 3) (by simp [gk])
  have r9 := em_in (K := K) (c := 9) (d := 1) (n := 10) (d' := 3) (by omega) (by simp [gk, dxx, dyy]) (by simp [gk, dxx, dyy]) (by omega)
  have d9 := em_in (K := K) (c := 9) (d := 2) (n := 13) (d' := 0) (by omega) (by simp [gk, dxx, dyy]) (by simp [gk, dxx, dyy]) (by omega)
  have r10 := em_in (K := K) (c := 10) (d := 1) (n := 11) (d' := 3) (by omega) (by simp [gk, dxx, dyy]) (by simp [gk, dxx, dyy]) (by omega)
  have d10 := em_in (K := K) (c := 10) (d := 2) (n := 14) (d' := 0) (by omega) (by simp [gk, dxx, dyy]) (by simp [gk, dxx, dyy]) (by omega)
  have r11 := em_bd (K := K) (c := 11) (d := 1) (by simp [gk])
  have d11 := em_in (K := K) (c := 11) (d := 2) (n := 15) (d' := 0) (by omega) (by simp [gk, dxx, dyy]) (by simp [gk, dxx, dyy]) (by omega)
  have r12 := em_in (K := K) (c := 12) (d := 1) (n := 13) (d' := 3) (by omega) (by simp [gk, dxx, dyy]) (by simp [gk, dxx, dyy]) (by omega)
  have d12 := em_bd (K := K) (c := 12) (d := 2) (by simp [gk])
  have l12 := em_bd (K := K) (c := 12) (d := 3) (by simp [gk])
  have r13 := em_in (K := K) (c := 13) (d := 1) (n := 14) (d' := 3) (by omega) (by simp [gk, dxx, dyy]) (by simp [gk, dxx, dyy]) (by omega)
  have d13 := em_bd (K := K) (c := 13) (d := 2) (by simp [gk])
  have r14 := em_in (K := K) (c := 14) (d := 1) (n := 15) (d' := 3) (by omega) (by simp [gk, dxx, dyy]) (by simp [gk, dxx, dyy]) (by omega)
  have d14 := em_bd (K := K) (c := 14) (d := 2) (by simp [gk])
  have r15 := em_bd (K := K) (c := 15) (d := 1) (by simp [gk])
  have d15 := em_bd (K := K) (c := 15) (d := 2) (by simp [gk])
  simp [su, kmm]
  omega
theorem mi_mk {B : iv_M} {c d : Int} (hW : Wa B) (hc : Wc B) (c0 : 0 ≤ c) (c1 : c < 16) (d0 : 0 ≤ d) (d1 : d < 4) : mi B c d = mk (kd B) c d := by
  unfold mi mk; rw [kdn_gk hW hc c0 c1 d0 d1]
def mis (B : iv_M) (j : Int) : Int := mi B (j / 4) (j % 4)
theorem mis_mm {B : iv_M} (hW : Wa B) (hc : Wc B) : su (mis B) 64 = mm B := by
  rw [mm_kmm hW hc, ← kmm_mk]
  exact su_congr 64 (fun j j0 j1 => mi_mk hW hc (by omega) (by omega) (by omega) (by omega))
theorem mi_01 (B : iv_M) (c d : Int) : 0 ≤ mi B c d ∧ mi B c d ≤ 1 := by
  unfold mi; repeat' split
  all_goals omega
/-- the first place below n where f is 1, or -1 -/
def ffb (f : Int → Int) : Nat → Int
  | 0 => -1
  | n + 1 => if ffb f n ≠ -1 then ffb f n else if f n = 1 then (n : Int) else -1
theorem ffb_spec {f : Int → Int} : ∀ n : Nat, (ffb f n = -1 ∧ ∀ i : Int, 0 ≤ i → i < n → f i ≠ 1) ∨ (0 ≤ ffb f n ∧ ffb f n < n ∧ f (ffb f n) = 1 ∧ ∀ i : Int, 0 ≤ i → i < ffb f n → f i ≠ 1) := by
  intro n
  induction n with
  | zero => left; exact ⟨rfl, fun i i0 i1 => by omega⟩
  | succ n ih =>
    have e : ffb f (n + 1) = if ffb f n ≠ -1 then ffb f n else if f n = 1 then (n : Int) else -1 := rfl
    rcases ih with ⟨h1, h2⟩ | ⟨h1, h2, h3, h4⟩
    · rw [h1] at e
      by_cases hf : f n = 1
      · rw [if_neg (by omega), if_pos hf] at e
        right; rw [e]; exact ⟨by omega, by omega, hf, h2⟩
      · rw [if_neg (by omega), if_neg hf] at e
        left; refine ⟨e, fun i i0 i1 => ?_⟩
        by_cases hi : i = n
        · rw [hi]; exact hf
        · exact h2 i i0 (by omega)
    · rw [if_pos (by omega)] at e
      right; rw [e]; exact ⟨h1, by omega, h3, h4⟩
theorem ffb_eq {f g : Int → Int} {n : Nat} (h1 : ∀ i : Int, 0 ≤ i → i < n → f i = 1 → g i = 1) (h2 : ∀ i : Int, 0 ≤ i → i < n → g i = 1 → f i = 1 ∨ ∃ j : Int, 0 ≤ j ∧ j < i ∧ f j = 1) : ffb f n = ffb g n := by
  rcases ffb_spec (f := f) n with ⟨a1, a2⟩ | ⟨a1, a2, a3, a4⟩ <;> rcases ffb_spec (f := g) n with ⟨b1, b2⟩ | ⟨b1, b2, b3, b4⟩
  · rw [a1, b1]
  · exfalso
    rcases h2 _ b1 b2 b3 with h | ⟨j, j0, j1, h⟩
    · exact a2 _ b1 b2 h
    · exact a2 j j0 (by omega) h
  · exact absurd (h1 _ a1 a2 a3) (b2 _ a1 a2)
  · have l1 : ffb f n ≤ ffb g n := by
      rcases h2 _ b1 b2 b3 with h | ⟨j, j0, j1, h⟩
      · by_cases e : ffb f n ≤ ffb g n
        · exact e
        · exact absurd h (a4 _ b1 (by omega))
      · by_cases e : ffb f n ≤ ffb g n
        · exact e
        · exact absurd h (a4 _ j0 (by omega))
    by_cases e : ffb f n < ffb g n
    · exact absurd (h1 _ a1 a2 a3) (b4 _ a1 e)
    · omega
def cms (B : iv_M) (j : Int) : Int := if B 121 (j / 4) = -1 then 0 else ed B (j / 4) (j % 4)
theorem first_eq {B : iv_M} (hW : Wa B) (hc : Wc B) : ffb (mis B) 64 = ffb (cms B) 64 := by
  refine ffb_eq (fun i i0 i1 h => ?_) (fun i i0 i1 h => ?_)
  · unfold mis mi at h
    unfold cms
    obtain ⟨k1, k2, k3⟩ := kd_3 (d := i % 4) hW hc (c := i / 4) (by omega) (by omega)
    by_cases e : kd B (i / 4) (i % 4) = 3
    · rw [if_pos e] at h; omega
    · rw [if_neg (fun z => e (k1.mpr z))]
      rw [if_neg e] at h
      unfold ed bd
      by_cases e1 : kdn B (i / 4) (i % 4) = 3
      · rw [if_pos e1] at h
        by_cases e2 : kd B (i / 4) (i % 4) = 1
        · rw [if_neg (by omega), if_pos (Or.inr e1), if_pos (Or.inl e2)]
        · rw [if_neg e2] at h; omega
      · rw [if_neg e1] at h
        by_cases e2 : (i % 4 = 1 ∨ i % 4 = 2) ∧ kd B (i / 4) (i % 4) ≠ kdn B (i / 4) (i % 4)
        · rw [if_neg e2.2, if_neg (by omega)]
        · rw [if_neg e2] at h; omega
  · unfold cms at h
    by_cases e0 : B 121 (i / 4) = -1
    · rw [if_pos e0] at h; omega
    rw [if_neg e0] at h
    obtain ⟨k1, k2, k3⟩ := kd_3 (d := i % 4) hW hc (c := i / 4) (by omega) (by omega)
    obtain ⟨a1, a2, a3, a4, a5, a6, a7, a8⟩ := placed hW hc (c := i / 4) (by omega) (by omega) e0
    unfold ed bd at h
    have e : kd B (i / 4) (i % 4) ≠ 3 := fun z => e0 (k1.mp z)
    by_cases e2 : kd B (i / 4) (i % 4) = kdn B (i / 4) (i % 4)
    · rw [if_pos e2] at h; omega
    · rw [if_neg e2] at h
      by_cases e1 : kdn B (i / 4) (i % 4) = 3
      · left
        rw [if_pos (Or.inr e1)] at h
        unfold mis mi
        rw [if_neg e, if_pos e1]
        by_cases e3 : kd B (i / 4) (i % 4) = 1
        · rw [if_pos e3]
        · rw [if_neg (by omega)] at h; omega
      · by_cases e3 : i % 4 = 1 ∨ i % 4 = 2
        · left; unfold mis mi; rw [if_neg e, if_neg e1, if_pos ⟨e3, e2⟩]
        · right
          have hn : nb B (i / 4) (i % 4) ≠ -1 := fun z => e1 (by unfold kdn; rw [if_pos z])
          obtain ⟨t1, t2, t3, t4, t5⟩ := nb_in hW hn
          have hb := nb_back hW (by omega) a7 a8 (by omega) (by omega) hn
          have hkn : kdn B (i / 4) (i % 4) = kd B (nb B (i / 4) (i % 4)) ((i % 4 + 2) % 4) := by unfold kdn; rw [if_neg hn]
          have hne := (nb_eq hn).2
          refine ⟨4 * nb B (i / 4) (i % 4) + (i % 4 + 2) % 4, by omega, ?_, ?_⟩
          · have : i % 4 = 0 ∨ i % 4 = 3 := by omega
            rcases this with h0 | h0 <;> rw [h0] at hne ⊢ <;> simp [dxx, dyy] at hne ⊢ <;> omega
          · unfold mis mi
            rw [show (4 * nb B (i / 4) (i % 4) + (i % 4 + 2) % 4) / 4 = nb B (i / 4) (i % 4) by omega, show (4 * nb B (i / 4) (i % 4) + (i % 4 + 2) % 4) % 4 = (i % 4 + 2) % 4 by omega]
            have hkk : kdn B (nb B (i / 4) (i % 4)) ((i % 4 + 2) % 4) = kd B (i / 4) (i % 4) := by
              unfold kdn; rw [hb, if_neg (by omega), show ((i % 4 + 2) % 4 + 2) % 4 = i % 4 by omega]
            rw [hkk, ← hkn, if_neg e1, if_neg e, if_pos ⟨by omega, fun z => e2 z.symm⟩]
