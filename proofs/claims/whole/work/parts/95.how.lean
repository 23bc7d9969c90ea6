-- HOW THEY CAME THERE
def RoF (ru : Option (List (List (Int × Int)))) (B : iv_M) (n : Int) (x : iv_M) : Prop := x 97 0 = (rowsL ru n.toNat B).length ∧ (∀ k, 1 ≤ k → k ≤ 3 → x 97 k = kcn k (rowsL ru n.toNat B)) ∧ ∀ r rs, rowsL ru n.toNat B = r :: rs → ∀ j : Nat, j < n.toNat → x 96 j = (r.getD j (0, 0)).1
theorem askRows_ok {t : Int} {N : Nat} {s : iv_M} {n : Int} {ru : Option (List (List (Int × Int)))} (hN : 1000 ≤ N) (h : Inv t s) (t0 : 0 ≤ t) (t1 : t ≤ 1000) (n0 : 0 ≤ n) (n1 : n ≤ 3) (hR : RUO s (s 114 12) ru) : ∃ o3 x, FX11_ruleInForce N s 0 = some o3 ∧ FX10_askRows_b18 N s 81 (now s) o3 n (s 0 15) = some x ∧ RoF ru s n x ∧ x 81 7 = s 0 15 ∧ x 81 8 = n ∧ ∀ a, (a < 81 ∨ 97 < a ∨ a = 91) → x a = s a := by
  obtain ⟨h1, h2, h3, h4, h5, h6, h7, h8, h9, h10⟩ := id h
  obtain ⟨m1, m2, m3⟩ := now_ne h1
  have hn := (now_HQ h1).2.1
  have hq : (s 0 4).toNat = now s := rfl
  obtain ⟨o3, e1, e2⟩ := ruleIn_ok (N := N) hq h2.1.2.2.2.2.1 h5.2.2.2.1 h5.2.2.1 hR
  obtain ⟨s0, hs0⟩ : ∃ s0, s0 = mu (mu s 81 7 (s 0 15)) 81 8 n := ⟨_, rfl⟩
  have o0 : ∀ a, a ≠ 81 → s0 a = s a := fun a ha => by rw [hs0, mu_rw ha, mu_rw ha]
  obtain ⟨b, b1, b2⟩ := begin_ok (N := N) (q := now s) (s := s0) (B := s) (o3 := o3) (ru := ru) (by omega) hn (HR1_ext (o0 _ (by omega)) (o0 _ (by omega)) h2.1) h3.1 (FRc_ext (fun a z0 z1 => o0 a (by omega)) h2.2.1.1) (FP_ext (o0 _ (by omega)) h2.2.1.2) (RuX_ext (fun a ha => o0 a (by omega)) e2)
  obtain ⟨⟨bL, bF, bP⟩, b3, b4, b5⟩ := b2
  have fl := fill_ok (N := N) (q := 97) (s := b) (v := 0) (n := 4) (by decide) (by omega)
  obtain ⟨g, hg⟩ : ∃ g, g = flM b 97 4 0 := ⟨_, rfl⟩
  have og : ∀ a, a ≠ 97 → g a = b a := fun a ha => by rw [hg]; funext i; exact fl_ne ha
  have hT : Tot (g 97 0) (g 97) (g 96) n.toNat [] := by
    refine ⟨by rw [hg, fl_eq (by omega) (by omega)]; rfl, fun k k0 k1 => by rw [hg, fl_eq (by omega) (by omega)]; rfl, fun r rs e => (by cases e), fun r hr => (by cases hr)⟩
  have hrl := rowsL_len (ru := ru) n.toNat s
  have hpw : 126 ^ n.toNat ≤ 126 ^ 3 := Nat.pow_le_pow_right (by decide) (by omega)
  have h126 : 126 ^ 3 = 2000376 := by decide
  obtain ⟨x, g1, g2, g3, g4, g5, g6⟩ := goRows_ok (N := N) (q := now s) (n := n.toNat) (ru := ru) (s := s) (B := s) hN hn (by omega) (WH_m.mp h3) h2.2.2.2.2.2 n.toNat 6 g s [] [] (by omega) (by show 0 + n.toNat = n.toNat; omega) (Lok.refl (WH_m.mp h3) h10) (FRc_ext (fun a z0 z1 => og a (by omega)) bF) (FP_ext (og _ (by omega)) bP) (fun _ => LR_ext (fun i _ => by rw [og 89 (by omega)]) (og _ (by omega)) (og _ (by omega)) (fun a ha => og a (by omega)) bL) (fun a ha ha2 => by rw [og a (by omega), b5 a (by omega), o0 a (by omega)]) (fun l hl => by cases hl) hT (by show 0 + (rowsL ru n.toNat s).length ≤ 3000000; omega)
  rw [List.nil_append, extR_nil] at g5
  have x81 : ∀ i, i ≠ 2 → x 81 i = s0 81 i := fun i hi => by rw [g6.1 81 (by omega), og 81 (by omega), b4 i hi]
  refine ⟨o3, x, e1, ?_, ⟨g5.1, g5.2.1, g5.2.2.1⟩, by rw [x81 7 (by omega), hs0, mu_ne (by omega), mu_eq], by rw [x81 8 (by omega), hs0, mu_eq], fun a ha => by rw [g6.1 a (by omega), og a (by omega), b5 a (by omega), o0 a (by omega)]⟩
  unfold FX10_askRows_b18
  simp only [Nat.reduceAdd]
  have g1' : FX10_goRows N 6 g 81 (now s) 0 n = some x := by
    have := g1
    rw [Int.toNat_of_nonneg n0] at this
    exact this
  rw [pt_ok, Option.bind_some, pt_ok, Option.bind_some, ← hs0, b1, Option.bind_some, fl, Option.bind_some, ← hg, g1', Option.bind_some]
theorem findsRows_ok {N : Nat} {s B : iv_M} {n m : Int} {ru : Option (List (List (Int × Int)))} (hN : 20000000 ≤ N) (hB : WHm m B) (hO : OZ B) (hE : Eb B s) (hR : RUO s (B 114 12) ru) (n0 : 0 ≤ n) (n1 : n ≤ 3) : ∃ x, FX12_findsRows N s 113 n = some x ∧ Eb B x ∧ Tot (x 113 78) (x 171) (x 170) n.toNat (rowsL ru n.toNat B) ∧ Rf2 s x := by
  obtain ⟨s0, hs0⟩ : ∃ s0, s0 = mu s 113 78 0 := ⟨_, rfl⟩
  obtain ⟨g, hg⟩ : ∃ g, g = flM s0 171 4 0 := ⟨_, rfl⟩
  have l7 : ∀ kx, FX12_findsRows_l7 N 113 n kx N s0 0 = kx g := fun kx => by
    have h0 : s0 = flM s0 171 ((0 : Nat) : Int) 0 := by funext a i; unfold flM; rw [if_neg (by omega)]
    have lp := loop_fn (L := FX12_findsRows_l7 N 113 n kx) (k := kx) (hi := 4) (N := N) (fun i => flM s0 171 (i : Int) 0) (by omega) (fun m => by rw [FX12_findsRows_l7, if_pos (by omega)]) (fun m i hi => by
      rw [FX12_findsRows_l7, if_neg (by omega)]
      simp only [Nat.reduceAdd]
      rw [wr_ok (by omega) (by omega), Option.bind_some, w32_id (by omega) (by omega)]
      congr 1
      funext a j
      show mu (flM s0 171 (i : Int) 0) 171 i 0 a j = flM s0 171 ((i + 1 : Nat) : Int) 0 a j
      unfold mu flM
      by_cases c1 : a = 171 ∧ j = (i : Int)
      · rw [if_pos c1, if_pos (by omega)]
      · rw [if_neg c1]
        by_cases c2 : a = 171 ∧ 0 ≤ j ∧ j < (i : Int)
        · rw [if_pos c2, if_pos (by omega)]
        · rw [if_neg c2, if_neg (by omega)]) (by omega)
    have lp' : FX12_findsRows_l7 N 113 n kx N (flM s0 171 ((0 : Nat) : Int) 0) 0 = kx (flM s0 171 4 0) := lp
    rw [← h0, ← hg] at lp'
    exact lp'
  obtain ⟨x, hx⟩ : ∃ x, x = mu (mu g 168 0 (-1)) 169 0 (-1) := ⟨_, rfl⟩
  have og : ∀ a, a ≠ 171 → g a = s0 a := fun a ha => by rw [hg]; funext i; exact fl_ne ha
  have ox : ∀ a, a ≠ 113 → a ≠ 168 → a ≠ 169 → a ≠ 171 → x a = s a := fun a h1 h2 h3 h4 => by rw [hx, mu_rw h3, mu_rw h2, og a h4, hs0, mu_rw h1]
  have x113 : ∀ j, j ≠ 78 → x 113 j = s 113 j := fun j hj => by rw [hx, mu_rw (by omega), mu_rw (by omega), og 113 (by omega), hs0, mu_ne (by omega)]
  have hEx : Eb B x := fun a z0 z1 => by rw [ox a (by omega) (by omega) (by omega) (by omega), hE a z0 z1]
  have hT : Tot (x 113 78) (x 171) (x 170) n.toNat [] := by
    refine ⟨by rw [hx, mu_rw (by omega), mu_rw (by omega), og 113 (by omega), hs0, mu_eq]; rfl, fun k k0 k1 => by rw [hx, mu_rw (by omega), mu_rw (by omega), hg, fl_eq (by omega) (by omega)]; rfl, fun r rs e => (by cases e), fun r hr => (by cases hr)⟩
  have hrl := rowsL_len (ru := ru) n.toNat B
  have hpw : 126 ^ n.toNat ≤ 126 ^ 3 := Nat.pow_le_pow_right (by decide) (by omega)
  have h126 : 126 ^ 3 = 2000376 := by decide
  obtain ⟨K, x', k1, k2, k3, k4, k5, k6⟩ := fRows_ok (N := N) (n := n.toNat) (ru := ru) (s := s) (B := B) (kx := fun (s_4301 : iv_M) => some s_4301) (by omega) (by omega) hB hR n.toNat x B B [] [] (by show 0 + n.toNat = n.toNat; omega) (Lok.refl hB hO) hEx (Or.inl ⟨rfl, rfl⟩) (fun l hl => by cases hl) (fun _ => by
    show x 168 0 = -1 ∧ x 169 0 = -1
    rw [hx, mu_ne (by omega), mu_eq, mu_eq]; exact ⟨rfl, rfl⟩) hT (by show 0 + (rowsL ru n.toNat B).length ≤ 3000000; omega) ⟨fun a z0 z1 z2 z3 z4 => ox a z0 (by omega) (by omega) (by omega), fun j z0 z1 z2 z3 => x113 j z3⟩
  rw [List.nil_append, extR_nil] at k4
  refine ⟨x', ?_, k3, k4, k5⟩
  have hbd : K ≤ 17062969 := by
    have h3 : bdR 3 = 17062969 := by decide
    have h2 : bdR 2 = 83641 := by decide
    have h1 : bdR 1 = 409 := by decide
    have h0 : bdR 0 = 1 := by decide
    have : n.toNat = 0 ∨ n.toNat = 1 ∨ n.toNat = 2 ∨ n.toNat = 3 := by omega
    rcases this with z | z | z | z <;> rw [z] at k1 <;> omega
  obtain ⟨f, hf⟩ : ∃ f, N = f + 1 + K := ⟨N - 1 - K, by omega⟩
  have k2' := k2 (f + 1)
  rw [← hf, Int.toNat_of_nonneg n0] at k2'
  unfold FX12_findsRows
  simp only [Nat.reduceAdd]
  rw [pt_ok, Option.bind_some, ← hs0, l7, wr_ok (by omega) (by omega), Option.bind_some, wr_ok (by omega) (by omega), Option.bind_some, ← hx]
  refine Eq.trans k2' ?_
  show FX12_findsRows_l41 N 113 n (fun (s_4301 : iv_M) => some s_4301) (f + 1) x' (((0 : Nat) : Int) - 1) = some x'
  rw [FX12_findsRows_l41, if_pos (by omega)]
theorem ct_how {t : Int} {N : Nat} {s : iv_M} {n w : Int} (hN : 20000000 ≤ N) (h : Inv t s) (t0 : 0 ≤ t) (t1 : t ≤ 1000) : ∃ a s1 s2, FX11_how N s 0 n w = some (a, s1) ∧ FX12_how N s1 113 n w = some (a, s2) ∧ Inv (t + 1) s2 := by
  have hI := h
  obtain ⟨h1, h2, h3, h4, h5, h6, h7, h8, h9, h10⟩ := h
  obtain ⟨m1, m2, m3⟩ := now_ne h1
  have hq : (s 0 4).toNat = now s := rfl
  have hto := HR1_told h2.1
  have h15 := h9.1
  obtain ⟨hW, ⟨_, _, _, _, _, _, _, _, _, p12, _⟩, _⟩ := id h3
  by_cases C : 0 < s 114 0 ∧ (0 ≤ n ∧ n ≤ 3) ∧ (0 ≤ w ∧ w ≤ 6)
  rotate_left
  · refine ⟨-1, s, s, ?_, ?_, HR1_mono (by omega) hI⟩
    · unfold FX11_how FX11_how_b29
      rw [hq]
      by_cases e0 : s (now s) 0 = 0
      · rw [if_pos e0]
      have hp : 0 < s 114 0 := by
        by_cases z : 0 < s 114 0
        · exact z
        · exact absurd (hto.mpr z) e0
      rw [if_neg e0]
      by_cases e1 : n < 0
      · rw [if_pos e1]
      rw [if_neg e1]
      by_cases e2 : 3 < n
      · rw [if_pos e2]
      rw [if_neg e2]
      by_cases e3 : w < 0
      · rw [if_pos e3]
      rw [if_neg e3, if_neg (fun z => C ⟨hp, ⟨by omega, by omega⟩, by omega, z⟩)]
    · unfold FX12_how FX12_how_b31
      rw [told_ref, Option.bind_some]
      by_cases e0 : 0 < s 114 0
      · rw [if_pos e0, if_neg (by omega), FX12_in_ok, Option.bind_some]
        by_cases e1 : 0 ≤ n ∧ n ≤ 3
        · rw [if_pos e1, if_neg (by omega), FX12_in_ok, Option.bind_some, if_neg (show ¬ (0 ≤ w ∧ w ≤ 6) from fun z => C ⟨e0, e1, z⟩), if_pos rfl]
        · rw [if_neg e1, if_pos rfl]
      · rw [if_neg e0, if_pos rfl]
  obtain ⟨hp, c1, c2⟩ := C
  have e0 : ¬ s (now s) 0 = 0 := fun z => hto.mp z hp
  obtain ⟨ru, hR⟩ := Rl_RUO h5 p12
  -- the class asks, or knows
  have ask : ∃ o3 x, FX11_ruleInForce N s 0 = some o3 ∧ FX10_askRows N s 81 (now s) o3 n (s 0 15) = some x ∧ (∀ ru', RUO s (s 114 12) ru' → RoF ru' s n x) ∧ x 81 7 = s 0 15 ∧ x 81 8 = n ∧ ∀ a, (a < 81 ∨ 97 < a ∨ a = 91) → x a = s a := by
    obtain ⟨o3, x, a1, a2, a3, a4, a5, a6⟩ := askRows_ok (N := N) (by omega) hI t0 t1 c1.1 c1.2 hR
    have miss : FX10_askRows N s 81 (now s) o3 n (s 0 15) = FX10_askRows_b18 N s 81 (now s) o3 n (s 0 15) → ∃ o3 x, FX11_ruleInForce N s 0 = some o3 ∧ FX10_askRows N s 81 (now s) o3 n (s 0 15) = some x ∧ (∀ ru', RUO s (s 114 12) ru' → RoF ru' s n x) ∧ x 81 7 = s 0 15 ∧ x 81 8 = n ∧ ∀ a, (a < 81 ∨ 97 < a ∨ a = 91) → x a = s a := fun hm => by
      refine ⟨o3, x, a1, hm.trans a2, fun ru' hru' => ?_, a4, a5, a6⟩
      obtain ⟨o4, y, b1, b2, b3, _⟩ := askRows_ok (N := N) (by omega) hI t0 t1 c1.1 c1.2 hru'
      rw [a1] at b1
      have ho : o3 = o4 := by injection b1
      rw [← ho, a2] at b2
      have hxy : x = y := by injection b2
      rw [hxy]; exact b3
    by_cases k1 : s 81 7 = s 0 15
    · by_cases k2 : s 81 8 = n
      · refine ⟨o3, s, a1, by unfold FX10_askRows; rw [if_pos k1, if_pos k2], fun ru' hru' => ?_, k1, k2, fun _ _ => rfl⟩
        have := h8.2.2 k1 ru' hru'
        rw [k2] at this
        exact ⟨this.2.1, this.2.2.1, this.2.2.2⟩
      · exact miss (by unfold FX10_askRows; rw [if_pos k1, if_neg k2])
    · exact miss (by unfold FX10_askRows; rw [if_neg k1])
  obtain ⟨o3, s1, a1, a2, a3, a4, a5, a6⟩ := ask
  have hRo := a3 ru hR
  have hb : Eb s s1 := fun a z0 z1 => a6 a (by omega)
  have e114 := hb 114 (by omega) (by omega)
  obtain ⟨s2, r1, r2, r3, r4⟩ := findsRows_ok (N := N) (s := s1) (B := s) (n := n) (ru := ru) hN (WH_m.mp h3) h10 hb (RUO_ext (fun a ha => a6 a (by omega)) hR) c1.1 c1.2
  obtain ⟨q1, q2, q3⟩ := hRo
  obtain ⟨u1, u2, u3, u4⟩ := r3
  have hrl := rowsL_len (ru := ru) n.toNat s
  have hlow : ∀ a, a ≠ 113 → (a < 114 ∨ 131 < a) → a ≠ 146 → a ≠ 147 → (a < 168 ∨ 171 < a) → s2 a = s1 a := r4.1
  have hcl : FX11_how N s 0 n w = (if 3 < w then ((rd s1 97 4 0).bind fun v_2202 => (if v_2202 ≤ 0 then (FX11_how_b101 N s1) else (if n ≤ (w32 ((w32 (w - 3)) - 1)) then (FX11_how_b101 N s1) else ((rd s1 96 3 (w32 ((w32 (w - 3)) - 1))).bind fun v_2205 => (FX11_how_b103 N s1 v_2205))))) else ((rd s1 97 4 w).bind fun v_2206 => (some (v_2206, s1)))) := by
    unfold FX11_how
    simp only [Nat.reduceAdd, Nat.zero_add]
    rw [hq, if_neg e0, if_neg (by omega), if_neg (by omega), if_neg (by omega), if_pos c2.2, a1, Option.bind_some, a2, Option.bind_some]
  have hre : FX12_how N s1 113 n w = (if w = 0 then (some ((s2 113 78), s2)) else (if 3 < w then (if (s2 113 78) = 0 then (FX12_how_b73 N s2) else (if (w32 (w - 4)) < n then ((rd s2 170 3 (w32 (w - 4))).bind fun v_4348 => (FX12_how_b86 N s2 v_4348)) else (FX12_how_b73 N s2))) else ((rd s2 171 4 w).bind fun v_4349 => (some (v_4349, s2))))) := by
    unfold FX12_how
    simp only [Nat.reduceAdd]
    rw [told_ref, Option.bind_some, e114, if_pos hp, if_neg (by omega), FX12_in_ok, Option.bind_some, if_pos c1, if_neg (by omega), FX12_in_ok, Option.bind_some, if_pos c2, if_neg (by omega), r1, Option.bind_some]
  have hInv : Inv (t + 1) s2 := by
    have hh0 : s1 0 = s 0 := a6 0 (by omega)
    have hRm : ∀ ru', RUO s2 (s2 114 12) ru' → RUO s (s 114 12) ru' := fun ru' hru' => by
      rw [r2 114 (by omega) (by omega)] at hru'
      exact RUO_ext (fun a ha => by rw [hlow a (by omega) (by omega) (by omega) (by omega) (by omega), a6 a (by omega)]) hru'
    have hmS : MeS s2 := by
      obtain ⟨b1, b2, b3⟩ := h7
      have m64 : s2 64 = s 64 := by rw [hlow 64 (by omega) (by omega) (by omega) (by omega) (by omega), a6 64 (by omega)]
      have m80 : s2 80 = s 80 := by rw [hlow 80 (by omega) (by omega) (by omega) (by omega) (by omega), a6 80 (by omega)]
      have m0 : s2 0 = s 0 := by rw [hlow 0 (by omega) (by omega) (by omega) (by omega) (by omega), hh0]
      refine ⟨by rw [m64]; exact b1, by rw [m64, m0]; exact b2, fun q => ?_⟩
      rw [m64, m0] at q
      exact SOK_er (Er.of_eb r2) m64 m80 (fun a ha => by rw [hlow a (by omega) (by omega) (by omega) (by omega) (by omega), a6 a (by omega)]) (b3 q)
    have hmR : MeR s2 := by
      have m81 : s2 81 = s1 81 := hlow 81 (by omega) (by omega) (by omega) (by omega) (by omega)
      have m0 : s2 0 = s 0 := by rw [hlow 0 (by omega) (by omega) (by omega) (by omega) (by omega), hh0]
      refine ⟨by rw [m81, a4]; omega, by rw [m81, a4, m0]; omega, fun _ => ?_⟩
      intro ru' hru'
      have hf := a3 ru' (hRm ru' hru')
      have hrl : rowsL ru' n.toNat s2 = rowsL ru' n.toNat s := er_rowsL _ s s2 (Er.of_eb r2)
      rw [m81, a5, hlow 97 (by omega) (by omega) (by omega) (by omega) (by omega), hlow 96 (by omega) (by omega) (by omega) (by omega) (by omega), hrl]
      exact ⟨c1, hf⟩
    exact Inv_bk (s1 := s1) hI (by omega) (fun i _ => by rw [hh0]) (by rw [hh0]; omega) (fun a ha => a6 a (by omega)) (HR_ext (fun a z0 z1 => a6 a (by omega)) h2) (WH_mono (by omega) h3) h5.2.2.2.1 h10 (fun a ha => hlow a (by omega) (by omega) (by omega) (by omega) (by omega)) (fun i hi => r4.2 i (by omega) (by omega) (by omega) (by omega)) r2 ⟨hmS, hmR⟩
  by_cases w0 : w = 0
  · refine ⟨((rowsL ru n.toNat s).length : Int), s1, s2, ?_, ?_, hInv⟩
    · rw [hcl, if_neg (by omega), rd_ok (by omega) (by omega), Option.bind_some, w0, q1]
    · rw [hre, if_pos w0, u1]
  by_cases w3 : 3 < w
  · have hw1 : w32 (w32 (w - 3) - 1) = w - 4 := by rw [w32_id (x := w - 3) (by omega) (by omega), w32_id (by omega) (by omega)]; omega
    have hw2 : w32 (w - 4) = w - 4 := w32_id (by omega) (by omega)
    rw [hw1] at hcl
    rw [hw2, if_neg w0, if_pos w3, u1] at hre
    rw [if_pos w3, rd_ok (by omega) (by omega), Option.bind_some, q1] at hcl
    by_cases e : (rowsL ru n.toNat s).length = 0
    · refine ⟨-2, s1, s2, ?_, ?_, hInv⟩
      · rw [hcl, if_pos (by omega)]; rfl
      · rw [hre, if_pos (by omega)]; rfl
    · rw [if_neg (by omega)] at hcl
      rw [if_neg (by omega)] at hre
      by_cases e2 : w - 4 < n
      · cases hrr : rowsL ru n.toNat s with
        | nil => rw [hrr] at e; exact absurd rfl e
        | cons r rs =>
          have v1 := q3 r rs hrr (w - 4).toNat (by omega)
          have v2 := u3 r rs hrr (w - 4).toNat (by omega)
          rw [Int.toNat_of_nonneg (by omega)] at v1 v2
          refine ⟨(r.getD (w - 4).toNat (0, 0)).1, s1, s2, ?_, ?_, hInv⟩
          · rw [hcl, if_neg (by omega), rd_ok (by omega) (by omega), Option.bind_some, v1]; rfl
          · rw [hre, if_pos e2, rd_ok (by omega) (by omega), Option.bind_some, v2]; rfl
      · refine ⟨-2, s1, s2, ?_, ?_, hInv⟩
        · rw [hcl, if_pos (by omega)]; rfl
        · rw [hre, if_neg e2]; rfl
  · refine ⟨kcn w (rowsL ru n.toNat s), s1, s2, ?_, ?_, hInv⟩
    · rw [hcl, if_neg w3, rd_ok (by omega) (by omega), Option.bind_some, q2 w (by omega) (by omega)]
    · rw [hre, if_neg w0, if_neg w3, rd_ok (by omega) (by omega), Option.bind_some, u2 w (by omega) (by omega)]
