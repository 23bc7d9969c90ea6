-- GUARDS of the reference
theorem FX12_guard_in {N : Nat} {s : iv_M} {x1 b S r : Int} {kx : Int → Option Int} (hN : 100 ≤ N) (hW : Wf s) (r0 : 0 ≤ r) (r1 : r < s 114 2) : FX12_guards_l84 N s 113 x1 b S r kx N 1 0 = kx (if grr s S r.toNat = true then 1 else 0) := by
  have hr2 := hW.1.2.2.2.2.2.1
  by_cases e : S / 2 ^ r.toNat % 2 = 1
  · obtain ⟨M, rfl⟩ : ∃ M, N = M + 1 := ⟨N - 1, by omega⟩
    rw [FX12_guards_l84, if_neg (by omega), if_neg (by omega), bit_ok r0 (by omega), if_neg (by omega), if_pos (show grr s S r.toNat = true by unfold grr; simp [e])]
  · have st : ∀ (n i : Nat), (i : Int) < 4 → FX12_guards_l84 N s 113 x1 b S r kx (n + 1) 1 i = FX12_guards_l84 N s 113 x1 b S r kx n (if gr1 s S r i = true then 1 else 0) ((i : Int) + 1) := by
      intro n i hi
      have hd := td_dd (N := N) (r := r) (d := i) hW r0 r1 (by omega) hi
      rw [FX12_guards_l84, if_neg (by omega), if_neg (by omega), bit_ok r0 (by omega), if_pos (by omega), hd.1, Option.bind_some]
      unfold FX12_guards_b131 FX12_guards_b136 gr1
      rw [w32_id (by omega) (by omega)]
      by_cases et : td s r i = -1
      · rw [if_pos et, if_pos rfl]; simp [et]
      · obtain ⟨t1, t2, t3, t4, t5, t6⟩ := td_room hW et
        rw [if_neg et, if_neg (show ¬ (1 : Int) = 0 by omega), hd.2 et, Option.bind_some, bit_ok t5 (by omega)]
        by_cases e2 : S / 2 ^ (td s r i).toNat % 2 = 1
        · rw [if_pos e2]; simp [e2]
        · rw [if_neg e2]; simp [e2, et]
    have := loop_all (L := fun n i => FX12_guards_l84 N s 113 x1 b S r kx n 1 i) (hi := 4) (N := N) (gr1 s S r) (Y := kx 1) (Z := kx 0) (by omega) (fun n => by
      show FX12_guards_l84 N s 113 x1 b S r kx (n + 1) 1 4 = _
      rw [FX12_guards_l84, if_pos (by omega)]) (fun n i hi hp => by rw [st n i hi, if_pos hp]) (fun n i hi hp => by
      rw [st _ i hi, if_neg (by rw [hp]; decide), FX12_guards_l84]
      by_cases e4 : (4 : Int) ≤ i + 1
      · rw [if_pos e4]
      · rw [if_neg e4, if_pos rfl]) (by omega)
    rw [this]
    have hg : grr s S r.toNat = alln (gr1 s S r) 4 := by unfold grr; rw [Int.toNat_of_nonneg r0]; simp [e]
    rw [hg, show (4 : Int).toNat = 4 from rfl]
    split <;> rfl
theorem FX12_guard_all {N : Nat} {s : iv_M} {x1 b S f : Int} {kx : Int → Option Int} (hN : 100 ≤ N) (hW : Wf s) (hf : f = 0 ∨ f = 1) : FX12_guards_l65 N s 113 x1 b S kx N f 0 = kx (if f = 1 ∧ gal s S = true then 1 else 0) := by
  have hr2 := hW.1.2.2.2.2.2.1
  have hr0 := hW.1.2.2.2.2.1
  have z0 : ∀ (n : Nat) (i : Int), FX12_guards_l65 N s 113 x1 b S kx (n + 1) 0 i = kx 0 := by
    intro n i
    rw [FX12_guards_l65]; simp only [Nat.reduceAdd]
    rw [rd_ok (by omega) (by omega), Option.bind_some]
    by_cases e : s 114 2 ≤ i
    · rw [if_pos e]
    · rw [if_neg e, if_pos trivial]
  rcases hf with rfl | rfl
  · obtain ⟨M, hM⟩ : ∃ M, N = M + 1 := ⟨N - 1, by omega⟩
    have := z0 M 0
    rw [← hM] at this
    rw [this, if_neg (by omega)]
  · have st : ∀ (n i : Nat), (i : Int) < s 114 2 → FX12_guards_l65 N s 113 x1 b S kx (n + 1) 1 i = FX12_guards_l65 N s 113 x1 b S kx n (if grr s S i = true then 1 else 0) ((i : Int) + 1) := by
      intro n i hi
      rw [FX12_guards_l65]; simp only [Nat.reduceAdd]
      rw [rd_ok (by omega) (by omega), Option.bind_some, if_neg (by omega), if_neg (by omega), FX12_guard_in hN hW (by omega) hi]
      unfold FX12_guards_b144
      rw [w32_id (by omega) (by omega), Int.toNat_natCast]
    have := loop_all (L := fun n i => FX12_guards_l65 N s 113 x1 b S kx n 1 i) (hi := s 114 2) (N := N) (grr s S) (Y := kx 1) (Z := kx 0) (by omega) (fun n => by
      show FX12_guards_l65 N s 113 x1 b S kx (n + 1) 1 (s 114 2) = _
      rw [FX12_guards_l65]; simp only [Nat.reduceAdd]
      rw [rd_ok (by omega) (by omega), Option.bind_some, if_pos (by omega)]) (fun n i hi hp => by rw [st n i hi, if_pos hp]) (fun n i hi hp => by rw [st _ i hi, if_neg (by rw [hp]; decide), z0]) (by omega)
    rw [this]
    unfold gal
    by_cases e : alln (grr s S) (s 114 2).toNat = true
    · rw [if_pos e, if_pos ⟨rfl, e⟩]
    · rw [if_neg e, if_neg (fun z => e z.2)]
theorem FX12_guard_lp {N : Nat} {s : iv_M} {x1 : Int} {kx : Int → Option Int} (hN : 5000 ≤ N) (hW : Wf s) : ∃ X, FX12_guards_l32 N s 113 x1 kx N ((2 ^ (s 114 2).toNat - 1 : Nat) : Int) 0 = kx X ∧ Bst (gal s) ((2 ^ (s 114 2).toNat - 1 : Nat) : Int) X := by
  have hr2 := hW.1.2.2.2.2.2.1
  have hr0 := hW.1.2.2.2.2.1
  obtain ⟨f1, f2, f3⟩ := full_ok hW
  have hgf := gal_full (B := s)
  have hpf : ∀ S : Int, 0 ≤ S → S < ((2 ^ (s 114 2).toNat - 1 : Nat) : Int) → pop S < pop ((2 ^ (s 114 2).toNat - 1 : Nat) : Int) := fun S => pop_full (by omega)
  have hF0 : 0 ≤ ((2 ^ (s 114 2).toNat - 1 : Nat) : Int) := Int.natCast_nonneg _
  generalize ((2 ^ (s 114 2).toNat - 1 : Nat) : Int) = F at *
  obtain ⟨y, y1, y2⟩ := loop_up (L := fun n z j => FX12_guards_l32 N s 113 x1 kx n z j) (k := kx) (hi := F + 1) (fun j z => 0 ≤ j ∧ (0 ≤ z ∧ z ≤ F) ∧ gal s z = true ∧ (z = F ∨ z < j) ∧ ∀ S, 0 ≤ S → S < j → gal s S = true → pop z < pop S ∨ (pop z = pop S ∧ z ≤ S)) (fun n z hz => by
      show FX12_guards_l32 N s 113 x1 kx (n + 1) z (F + 1) = kx z
      rw [FX12_guards_l32]; simp only [Nat.reduceAdd]
      rw [rd_ok (by omega) (by omega), Option.bind_some, f2, if_pos (by omega)]) (fun n j z hz hj => by
      obtain ⟨j0, z1, z2, z4, z3⟩ := hz
      have st : FX12_guards_l32 N s 113 x1 kx (n + 1) z j = FX12_guards_l32 N s 113 x1 kx n (if pop j < pop z ∧ gal s j = true then j else z) (j + 1) := by
        rw [FX12_guards_l32]; simp only [Nat.reduceAdd]
        rw [rd_ok (by omega) (by omega), Option.bind_some, f2, if_neg (by omega), bits_ok (by omega), bits_ok (by omega), Option.bind_some, Option.bind_some]
        unfold FX12_guards_b60
        rw [FX12_guard_all (by omega) hW (Or.inl rfl), FX12_guard_all (by omega) hW (Or.inr rfl)]
        unfold FX12_guards_b150 FX12_guards_b160
        rw [w32_id (by omega) (by omega), if_neg (show ¬ ((0 : Int) = 1 ∧ gal s j = true) by omega), if_pos (show (0 : Int) = 0 from rfl)]
        by_cases c : pop z ≤ pop j
        · rw [if_pos c, if_neg (show ¬ (pop j < pop z ∧ gal s j = true) by omega)]
        · rw [if_neg c]
          by_cases e : gal s j = true
          · rw [if_pos (show (1 : Int) = 1 ∧ gal s j = true from ⟨rfl, e⟩), if_neg (show ¬ (1 : Int) = 0 by omega), if_pos (show pop j < pop z ∧ gal s j = true from ⟨by omega, e⟩)]
          · rw [if_neg (show ¬ ((1 : Int) = 1 ∧ gal s j = true) from fun x => e x.2), if_pos (show (0 : Int) = 0 from rfl), if_neg (show ¬ (pop j < pop z ∧ gal s j = true) from fun x => e x.2)]
      by_cases c : pop j < pop z ∧ gal s j = true
      · rw [if_pos c] at st
        refine ⟨j, st, by omega, by omega, c.2, by omega, fun S a b g => ?_⟩
        by_cases e : S = j
        · right; rw [e]; omega
        · have := z3 S a (by omega) g; omega
      · rw [if_neg c] at st
        refine ⟨z, st, by omega, z1, z2, by omega, fun S a b g => ?_⟩
        by_cases e : S = j
        · rw [e] at g ⊢
          have c1 : ¬ pop j < pop z := fun x => c ⟨x, g⟩
          by_cases e2 : pop z < pop j
          · left; exact e2
          · right
            refine ⟨by omega, ?_⟩
            rcases z4 with z4 | z4
            · by_cases e3 : j = F
              · omega
              · have := hpf j j0 (by omega)
                rw [z4] at c1; omega
            · omega
        · exact z3 S a (by omega) g) N 0 F ⟨by omega, by omega, hgf, Or.inl rfl, fun S a b _ => by omega⟩ (by omega) (by omega)
  have y2 : FX12_guards_l32 N s 113 x1 kx N F 0 = kx y := y2
  exact ⟨y, y2, y1.2.1, y1.2.2.1, fun S a b g => y1.2.2.2.2 S a (by omega) g⟩
theorem gal_eb {s s' : iv_M} (h : Eb s s') : gal s' = gal s := by
  have hg : ∀ S r, gr1 s' S r = gr1 s S r := fun S r => by funext d; unfold gr1; rw [eb_td h]
  funext S; unfold gal; rw [h 114 (by omega) (by omega)]; congr 1
  funext r; unfold grr; rw [hg]
theorem ct_guards {t : Int} {N : Nat} {s : iv_M} {x : Int} (hN : 5000 ≤ N) (h : Inv t s) : ∃ a s1, FX11_guards N s 0 x = some (a, s1) ∧ FX12_guards N s1 113 x = some a ∧ Inv (t + 1) s1 := by
  have hI := h
  obtain ⟨h1, ⟨hr1, ⟨hF, hP⟩, hK, hH4, _⟩, ⟨hW, _⟩, _⟩ := h
  obtain ⟨n1, n2, n3⟩ := now_ne h1
  have hq : (s 0 4).toNat = now s := rfl
  have hto := HR1_told hr1
  have hr2 := hW.1.2.2.2.2.2.1
  have hr0 := hW.1.2.2.2.2.1
  have hs := HR1_mono (t' := t + 1) (by omega) hI
  unfold FX11_guards FX12_guards FX11_guards_b19 FX12_guards_b17 FX11_guards_b48 FX12_guards_b179
  rw [hq]
  by_cases e0 : s (now s) 0 = 0
  · rw [if_pos e0]
    refine ⟨-1, s, rfl, ?_, hs⟩
    rw [FX12_isPalace_ok, Option.bind_some, if_neg (hto.mp e0), if_pos rfl]
  have hp : 0 < s 114 0 := by
    by_cases z : 0 < s 114 0
    · exact z
    · exact absurd (hto.mpr z) e0
  rw [if_neg e0]
  by_cases c : 0 ≤ x ∧ x ≤ 1
  · rw [if_neg (show ¬ x < 0 by omega), if_pos c.2]
    obtain ⟨X, s1, e1, e2, e3⟩ := FX0_guarding_ok (N := N) (q := now s + 1) hN (by omega) hF hW
    have hI1 := Inv_q (t' := t + 1) hI (by omega) (e3 0 (by omega)) (fun a ha => e3 a (by omega)) (fun i _ => by rw [e3 113 (by omega)])
    have hE : Eb s s1 := fun a a0 a1 => e3 a (by omega)
    have hW1 := eb_Wf hE hW
    have hb : s1 114 = s 114 := e3 114 (by omega)
    obtain ⟨f1, f2, f3⟩ := full_ok hW
    have hX : 0 ≤ X ∧ X < 4096 := by have := e2.1; omega
    simp only [Nat.reduceAdd]
    rw [e1, Option.bind_some]
    dsimp only
    rw [bitCount_ok hX.1 hX.2, Option.bind_some]
    have key : ∀ kx : Int → Option Int, FX12_guards_l32 N s1 113 x kx N ((2 ^ (s 114 2).toNat - 1 : Nat) : Int) 0 = kx X := by
      intro kx
      obtain ⟨Y, y1, y2⟩ := FX12_guard_lp (x1 := x) (kx := kx) hN hW1
      rw [hb, gal_eb hE] at y2
      rw [hb] at y1
      rw [y1, e2.uniq y2]
    refine ⟨if x = 0 then pop X else X, s1, by split <;> rfl, ?_, hI1⟩
    rw [FX12_isPalace_ok, Option.bind_some, hb, if_pos hp, if_neg (show ¬ (1 : Int) = 0 by omega), FX12_in_ok, Option.bind_some, if_pos c, if_neg (show ¬ (1 : Int) = 0 by omega), rd_ok (by omega) (by omega), Option.bind_some, hb, f1, key, bits_ok (by omega), Option.bind_some]
    split <;> rfl
  · have e1 : (if x < 0 then some (-1, s) else if x ≤ 1 then (FX0_guarding N s (0 + 98) (now s + 1)).bind fun r_2160 => (fun (v_2160 : Int) (s_2161 : iv_M) => (if x = 0 then ((FJ6_bitCount_0f7a4 N s_2161 v_2160).bind fun v_2163 => some (v_2163, s_2161)) else some (v_2160, s_2161))) r_2160.1 r_2160.2 else some (-1, s)) = some (-1, s) := by
      by_cases z : x < 0
      · rw [if_pos z]
      · rw [if_neg z, if_neg (show ¬ x ≤ 1 by omega)]
    rw [e1]
    refine ⟨-1, s, rfl, ?_, hs⟩
    rw [FX12_isPalace_ok, Option.bind_some, if_pos hp, if_neg (show ¬ (1 : Int) = 0 by omega), FX12_in_ok, Option.bind_some, if_neg c, if_pos rfl]
