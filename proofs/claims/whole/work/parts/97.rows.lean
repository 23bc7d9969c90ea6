-- NIGHTS, and the row of walks
theorem Inv_mk2 {t : Int} {x s2 : iv_M} (hI : Inv t x) (ho : ∀ a, a ≠ 113 → a ≠ 153 → s2 a = x a) (h1 : ∀ i, i ≠ 56 → s2 113 i = x 113 i) (h56 : 0 ≤ s2 113 56 ∧ s2 113 56 ≤ t) (hm : ∀ i, 0 ≤ i → i < 4096 → s2 153 i ≤ s2 113 56) : Inv t s2 := by
  obtain ⟨g1, g2, g3, g4, g5, g6, g7, g8, g9, g10⟩ := hI
  obtain ⟨n1, n2, n3⟩ := now_ne g1
  have e0 : s2 0 = x 0 := ho 0 (by omega) (by omega)
  have hn : now s2 = now x := by unfold now; rw [e0]
  have hE : Eb x s2 := fun a a0 a1 => ho a (by omega) (by omega)
  refine ⟨?_, ?_, WH_eb hE g3, ?_, ?_, fun k k0 k1 => ?_, ?_, ?_, ?_, fun a a0 a1 i hi => by rw [hE a a0 a1]; exact g10 a a0 a1 i hi⟩
  · unfold NowS at g1 ⊢; rw [e0]; exact g1
  · rw [hn]; exact HR_eb hE (HR_ext (fun a y z => ho a (by omega) (by omega)) g2)
  · unfold Tp at g4 ⊢; rw [e0, h1 28 (by omega), ho 1 (by omega) (by omega), ho 139 (by omega) (by omega)]; exact g4
  · obtain ⟨a1, a2, a3, a4, a5⟩ := g5
    refine ⟨by rw [e0, h1 32 (by omega)]; exact a1, by rw [e0]; exact a2, by rw [e0]; exact a3, by rw [e0, ho 114 (by omega) (by omega)]; exact a4, fun f f0 f1 => ?_⟩
    rw [e0] at f1
    obtain ⟨R, hR⟩ := a5 f f0 f1
    exact ⟨R, RUL_ext (ho 140 (by omega) (by omega)) (ho 141 (by omega) (by omega)) (ho 142 (by omega) (by omega)) (ho 143 (by omega) (by omega)) (ho 144 (by omega) (by omega)) (ho _ (by omega) (by omega)) hR⟩
  · have hi : img s2 k = img x k := by funext a i; unfold img; rw [ho 172 (by omega) (by omega)]
    unfold Im1
    rw [ho 173 (by omega) (by omega), ho 53 (by omega) (by omega), hi, e0]
    rcases g6 k k0 k1 with z | ⟨z1, q, z2, z3, z4, z5, z6, z7⟩
    · left; exact z
    · right; exact ⟨z1, q, z2, z3, z4, HR_ext (fun a x y => ho a (by omega) (by omega)) z5, z6, z7⟩
  · obtain ⟨a1, a2, a3⟩ := g7
    refine ⟨by rw [ho 64 (by omega) (by omega)]; exact a1, by rw [ho 64 (by omega) (by omega), e0]; exact a2, fun q => ?_⟩
    rw [ho 64 (by omega) (by omega), e0] at q
    exact SOK_er (Er.of_eb hE) (ho 64 (by omega) (by omega)) (ho 80 (by omega) (by omega)) (fun a ha => (ho a (by omega) (by omega)).symm) (a3 q)
  · obtain ⟨a1, a2, a3⟩ := g8
    refine ⟨by rw [ho 81 (by omega) (by omega)]; exact a1, by rw [ho 81 (by omega) (by omega), e0]; exact a2, fun q => ?_⟩
    rw [ho 81 (by omega) (by omega), e0] at q
    exact ROK_er (Er.of_eb hE) (ho 81 (by omega) (by omega)) (ho 96 (by omega) (by omega)) (ho 97 (by omega) (by omega)) (fun a ha => (ho a (by omega) (by omega)).symm) (a3 q)
  · obtain ⟨a1, a2, a3, a4⟩ := g9
    exact ⟨by rw [e0]; exact a1, by rw [h1 37 (by omega)]; exact a2, h56, hm⟩
theorem asks_ok {t : Int} {N : Nat} {s : iv_M} {k : Int} (hN : 5000 ≤ N) (h : Inv t s) (t0 : 0 ≤ t) (t1 : t ≤ 1000) (hd : hdr s k) : ∃ (o3 : Int) (s1 s2 : iv_M) (ru : Option (List (List (Int × Int)))), FX11_ruleInForce N s 0 = some o3 ∧ FX9_ask N s 64 (now s) o3 k (s 0 15) = some s1 ∧ s1 64 11 = (srch ru s k).1 ∧ Pth (srch ru s k).2 s1 ∧ s1 114 = s 114 ∧ FX12_finds N s1 113 k = some ((srch ru s k).1, s2) ∧ Inv (t + 1) s2 ∧ (((srch ru s k).1 = -3 ∧ (srch ru s k).2 = []) ∨ ((srch ru s k).1 = -2 ∧ (srch ru s k).2 = []) ∨ ((srch ru s k).1 = (srch ru s k).2.length ∧ (srch ru s k).1 ≤ 1500 ∧ ∀ (j : Nat) (x3 : Int) (kx : iv_M → Int → Option (Int × iv_M)), j < (srch ru s k).2.length → ∃ u : Nat, u < 1501 ∧ s2 151 u = (srch ru s k).2.getD j 0 ∧ (0 ≤ (srch ru s k).2.getD j 0 ∧ (srch ru s k).2.getD j 0 < 204) ∧ FX12_row_l69 N 113 (j : Int) x3 kx N s2 (s2 113 58) ((srch ru s k).1 - 1) = kx s2 (u : Int))) := by
  have hI := h
  obtain ⟨h1, h2, h3, h4, h5, h6, h7, h8, h9, h10⟩ := h
  obtain ⟨m1, m2, m3⟩ := now_ne h1
  obtain ⟨hW, ⟨_, _, _, _, _, _, _, _, _, p12, _⟩, hW2⟩ := id h3
  obtain ⟨⟨c0, c1⟩, _, ⟨k0, k1⟩, hmk⟩ := id h9
  obtain ⟨ru, hR⟩ := Rl_RUO h5 p12
  have ask : ∃ o3 x, FX11_ruleInForce N s 0 = some o3 ∧ FX9_ask N s 64 (now s) o3 k (s 0 15) = some x ∧ (∀ ru', RUO s (s 114 12) ru' → x 64 11 = (srch ru' s k).1 ∧ Pth (srch ru' s k).2 x) ∧ x 64 9 = s 0 15 ∧ x 64 10 = k ∧ ∀ a, (a < 64 ∨ 80 < a) → x a = s a := by
    obtain ⟨o3, x, a1, a2, a3, a4, a5, a6, a7⟩ := ask_ok (N := N) hN hI t0 t1 hd hR
    have miss : FX9_ask N s 64 (now s) o3 k (s 0 15) = FX9_ask_b18 N s 64 (now s) o3 k (s 0 15) → ∃ o3 x, FX11_ruleInForce N s 0 = some o3 ∧ FX9_ask N s 64 (now s) o3 k (s 0 15) = some x ∧ (∀ ru', RUO s (s 114 12) ru' → x 64 11 = (srch ru' s k).1 ∧ Pth (srch ru' s k).2 x) ∧ x 64 9 = s 0 15 ∧ x 64 10 = k ∧ ∀ a, (a < 64 ∨ 80 < a) → x a = s a := fun hm => by
      refine ⟨o3, x, a1, hm.trans a2, fun ru' hru' => ?_, a5, a6, a7⟩
      obtain ⟨o4, y, b1, b2, b3, b4, _⟩ := ask_ok (N := N) hN hI t0 t1 hd hru'
      rw [a1] at b1
      have ho : o3 = o4 := by injection b1
      rw [← ho, a2] at b2
      have hxy : x = y := by injection b2
      rw [hxy]; exact ⟨b3, b4⟩
    by_cases q1 : s 64 9 = s 0 15
    · by_cases q2 : s 64 10 = k
      · refine ⟨o3, s, a1, by unfold FX9_ask; rw [if_pos q1, if_pos q2], fun ru' hru' => ?_, q1, q2, fun _ _ => rfl⟩
        have := h7.2.2 q1 ru' hru'
        rw [q2] at this
        exact ⟨this.2.1, this.2.2⟩
      · exact miss (by unfold FX9_ask; rw [if_pos q1, if_neg q2])
    · exact miss (by unfold FX9_ask; rw [if_neg q1])
  obtain ⟨o3, s1, a1, a2, a3, a4, a5, a6⟩ := ask
  obtain ⟨b1, b2⟩ := a3 ru hR
  have hb : Eb s s1 := fun a z0 z1 => a6 a (by omega)
  have e11 : s1 113 = s 113 := a6 113 (by omega)
  obtain ⟨y, f1, f2, f3, f4, f5, f6⟩ := finds_ok (N := N) (s := s1) (B := s) (m := 20 * t) (k := k) (ru := ru) hN (WH_m.mp h3) h10 hb (RUO_ext (fun a ha => a6 a (by omega)) hR) hd (hW2.2.2.2.2.1 k hd.1 hd.2.1 hd.2.2) (fun i i0 i1 => by rw [e11, a6 153 (by omega)]; exact hmk i i0 i1) (by rw [e11]; omega)
  refine ⟨o3, s1, y, ru, a1, a2, b1, b2, a6 114 (by omega), f1, ?_, f6⟩
  obtain ⟨x, hx⟩ : ∃ x : iv_M, x = fun a i => if a = 153 then s 153 i else if a = 113 ∧ i = 56 then s 113 56 else y a i := ⟨_, rfl⟩
  have x153 : x 153 = s 153 := by rw [hx]; rfl
  have xo : ∀ a, a ≠ 113 → a ≠ 153 → x a = y a := fun a n1 n2 => by rw [hx]; funext i; show (if a = 153 then s 153 i else if a = 113 ∧ i = 56 then s 113 56 else y a i) = _; rw [if_neg n2, if_neg (by omega)]
  have x1 : ∀ i, i ≠ 56 → x 113 i = y 113 i := fun i hi => by rw [hx]; show (if (113 : Nat) = 153 then s 153 i else if (113 : Nat) = 113 ∧ i = 56 then s 113 56 else y 113 i) = _; rw [if_neg (by omega), if_neg (by omega)]
  have x56 : x 113 56 = s 113 56 := by rw [hx]; rfl
  have ylow : ∀ a, a ≠ 113 → a ≠ 153 → (a ≤ 113 ∨ (132 ≤ a ∧ a ≤ 145) ∨ 155 ≤ a) → x a = s1 a := fun a n1 n2 ha => by rw [xo a n1 n2, f3.1 a n1 (by omega) (by omega)]
  have hx0 : x 0 = s 0 := by rw [ylow 0 (by omega) (by omega) (by omega), a6 0 (by omega)]
  have hEx : Eb s x := fun a z0 z1 => by rw [xo a (by omega) (by omega), f2 a z0 z1]
  have hInv : Inv (t + 1) x := by
    have hRm : ∀ ru', RUO x (x 114 12) ru' → RUO s (s 114 12) ru' := fun ru' hru' => by
      rw [hEx 114 (by omega) (by omega)] at hru'
      exact RUO_ext (fun a ha => by rw [ylow a (by omega) (by omega) (by omega), a6 a (by omega)]) hru'
    have hmS : MeS x := by
      have m64 : x 64 = s1 64 := ylow 64 (by omega) (by omega) (by omega)
      refine ⟨by rw [m64, a4]; omega, by rw [m64, a4, hx0]; omega, fun _ => ?_⟩
      intro ru' hru'
      obtain ⟨g1, g2⟩ := a3 ru' (hRm ru' hru')
      rw [m64, a5, hEx 114 (by omega) (by omega), er_srch (Er.of_eb hEx), ylow 80 (by omega) (by omega) (by omega)]
      exact ⟨hd, g1, g2⟩
    have hmR : MeR x := by
      obtain ⟨b1, b2, b3⟩ := h8
      have m81 : x 81 = s 81 := by rw [ylow 81 (by omega) (by omega) (by omega), a6 81 (by omega)]
      have m96 : x 96 = s 96 := by rw [ylow 96 (by omega) (by omega) (by omega), a6 96 (by omega)]
      have m97 : x 97 = s 97 := by rw [ylow 97 (by omega) (by omega) (by omega), a6 97 (by omega)]
      refine ⟨by rw [m81]; exact b1, by rw [m81, hx0]; exact b2, fun q => ?_⟩
      rw [m81, hx0] at q
      exact ROK_er (Er.of_eb hEx) m81 m96 m97 (fun a ha => by rw [ylow a (by omega) (by omega) (by omega), a6 a (by omega)]) (b3 q)
    have hh0 : s1 0 = s 0 := a6 0 (by omega)
    exact Inv_bk (s1 := s1) hI (by omega) (fun i _ => by rw [hh0]) (by rw [hh0]; omega) (fun a ha => a6 a (by omega)) (HR_ext (fun a z0 z1 => a6 a (by omega)) h2) (WH_mono (by omega) h3) h5.2.2.2.1 h10 (fun a ha => by
      by_cases z : a = 153
      · rw [z, x153, a6 153 (by omega)]
      · exact ylow a (by omega) z (by omega)) (fun i hi => by
      by_cases z : i = 56
      · rw [z, x56, e11]
      · rw [x1 i z, f3.2 i (by omega) (by omega) (by omega) z (by omega) (by omega)]) hEx ⟨hmS, hmR⟩
  exact Inv_mk2 hInv (fun a n1 n2 => (xo a n1 n2).symm) (fun i hi => (x1 i hi).symm) (by rw [f4, e11]; omega) f5
theorem ct_nights {t : Int} {N : Nat} {s : iv_M} {k : Int} (hN : 5000 ≤ N) (h : Inv t s) (t0 : 0 ≤ t) (t1 : t ≤ 1000) : ∃ a s1 s2, FX11_nights N s 0 k = some (a, s1) ∧ FX12_nights N s1 113 k = some (a, s2) ∧ Inv (t + 1) s2 := by
  have hq : (s 0 4).toNat = now s := rfl
  have h8 : s (now s) 8 = s 114 11 := h.2.1.1.2.2.2.2.2.2.2
  rcases FX2_hasDraft_ok (N := N) (k := k) h8 with ⟨hd, c⟩ | ⟨hd, c⟩
  · obtain ⟨o3, s1, s2, ru, a1, a2, a3, a4, a5, a6, a7, _⟩ := asks_ok (N := N) hN h t0 t1 hd
    refine ⟨(srch ru s k).1, s1, s2, ?_, ?_, a7⟩
    · unfold FX11_nights
      simp only [Nat.reduceAdd, Nat.zero_add]
      rw [hq, c, Option.bind_some, if_neg (by decide), a1, Option.bind_some, a2, Option.bind_some, a3]
    · unfold FX12_nights FX12_nights_b17
      have : hdr s1 k := by unfold hdr at hd ⊢; rw [a5]; exact hd
      rcases FX12_isDraft_ok (N := N) (s := s1) (k := k) with ⟨_, r⟩ | ⟨z, _⟩
      · rw [r, Option.bind_some, if_neg (by decide), a6, Option.bind_some]
      · exact absurd this z
  · refine ⟨-1, s, s, ?_, ?_, HR1_mono (by omega) h⟩
    · unfold FX11_nights
      rw [hq, c, Option.bind_some, if_pos rfl]
    · unfold FX12_nights FX12_nights_b17
      rcases FX12_isDraft_ok (N := N) (s := s) (k := k) with ⟨z, _⟩ | ⟨_, r⟩
      · exact absurd z hd
      · rw [r, Option.bind_some, if_pos rfl]
theorem ct_row {t : Int} {N : Nat} {s : iv_M} {k x2 x3 : Int} (hN : 5000 ≤ N) (h : Inv t s) (t0 : 0 ≤ t) (t1 : t ≤ 1000) : ∃ a s1 s2, FX11_row N s 0 k x2 x3 = some (a, s1) ∧ FX12_row N s1 113 k x2 x3 = some (a, s2) ∧ Inv (t + 1) s2 := by
  have hq : (s 0 4).toNat = now s := rfl
  have h8 : s (now s) 8 = s 114 11 := h.2.1.1.2.2.2.2.2.2.2
  by_cases C : hdr s k ∧ 0 ≤ x2 ∧ (0 ≤ x3 ∧ x3 ≤ 2)
  rotate_left
  · refine ⟨-1, s, s, ?_, ?_, HR1_mono (by omega) h⟩
    · unfold FX11_row FX11_row_b24
      rw [hq]
      rcases FX2_hasDraft_ok (N := N) (k := k) h8 with ⟨hd, c⟩ | ⟨hd, c⟩
      · rw [c, Option.bind_some, if_neg (by decide)]
        by_cases e1 : x2 < 0
        · rw [if_pos e1]
        rw [if_neg e1]
        by_cases e2 : x3 < 0
        · rw [if_pos e2]
        rw [if_neg e2, if_neg (fun z => C ⟨hd, by omega, by omega, z⟩)]
      · rw [c, Option.bind_some, if_pos rfl]
    · unfold FX12_row FX12_row_b24
      rcases FX12_isDraft_ok (N := N) (s := s) (k := k) with ⟨hd, r⟩ | ⟨z, r⟩
      · rw [r, Option.bind_some, if_neg (by decide)]
        by_cases e1 : x2 < 0
        · rw [if_pos e1]
        rw [if_neg e1, FX12_in_ok, Option.bind_some, if_neg (show ¬ (0 ≤ x3 ∧ x3 ≤ 2) from fun z => C ⟨hd, by omega, z⟩), if_pos rfl]
      · rw [r, Option.bind_some, if_pos rfl]
  obtain ⟨hd, c2, c3⟩ := C
  obtain ⟨o3, s1, s2, ru, a1, a2, a3, a4, a5, a6, a7, a8⟩ := asks_ok (N := N) hN h t0 t1 hd
  have hd1 : hdr s1 k := by unfold hdr at hd ⊢; rw [a5]; exact hd
  have hcl : FX11_row N s 0 k x2 x3 = (if 0 ≤ (srch ru s k).1 then (if (srch ru s k).1 ≤ x2 then (some ((-2 : Int), s1)) else (if 1500 ≤ x2 then (some ((-2 : Int), s1)) else ((rd s1 80 1500 x2).bind fun v_2041 => ((FX11_partOf N s1 v_2041 x3).bind fun v_2042 => (some (v_2042, s1)))))) else (some ((srch ru s k).1, s1))) := by
    unfold FX11_row FX11_row_b103 FX11_row_b105
    simp only [Nat.reduceAdd, Nat.zero_add]
    rcases FX2_hasDraft_ok (N := N) (k := k) h8 with ⟨_, c⟩ | ⟨z, _⟩
    · rw [hq, c, Option.bind_some, if_neg (by decide), if_neg (by omega), if_neg (by omega), if_pos c3.2, a1, Option.bind_some, a2, Option.bind_some, a3]
    · exact absurd hd z
  have hre : FX12_row N s1 113 k x2 x3 = (if (srch ru s k).1 < 0 then (FX12_row_b44 N s2 (srch ru s k).1) else (if x2 < (srch ru s k).1 then (FX12_row_l69 N 113 x2 x3 (fun (s_3683 : iv_M) (x3684_5 : Int) => ((rd s_3683 151 1501 x3684_5).bind fun v_3685 => ((FX12_part N s_3683 v_3685 x3).bind fun v_3686 => (some (v_3686, s_3683))))) N s2 (s2 113 58) (w32 ((srch ru s k).1 - 1))) else (FX12_row_b44 N s2 (srch ru s k).1))) := by
    unfold FX12_row
    simp only [Nat.reduceAdd]
    rcases FX12_isDraft_ok (N := N) (s := s1) (k := k) with ⟨_, r⟩ | ⟨z, _⟩
    · rw [r, Option.bind_some, if_neg (by decide), if_neg (by omega), FX12_in_ok, Option.bind_some, if_pos c3, if_neg (by decide), a6, Option.bind_some]
    · exact absurd hd1 z
  rcases a8 with ⟨z, _⟩ | ⟨z, _⟩ | ⟨z1, z2, z3⟩
  · refine ⟨-3, s1, s2, ?_, ?_, a7⟩
    · rw [hcl, z, if_neg (by decide)]
    · rw [hre, z, if_pos (by decide)]; rfl
  · refine ⟨-2, s1, s2, ?_, ?_, a7⟩
    · rw [hcl, z, if_neg (by decide)]
    · rw [hre, z, if_pos (by decide)]; rfl
  · by_cases e : x2 < (srch ru s k).1
    · obtain ⟨j, rfl⟩ := Int.eq_ofNat_of_zero_le c2
      obtain ⟨u, u1, u2, u3, u4⟩ := z3 j x3 (fun (s_3683 : iv_M) (x3684_5 : Int) => ((rd s_3683 151 1501 x3684_5).bind fun v_3685 => ((FX12_part N s_3683 v_3685 x3).bind fun v_3686 => (some (v_3686, s_3683))))) (by omega)
      have hr := a4 j (by omega)
      obtain ⟨c, hc⟩ : ∃ c, c = (srch ru s k).2.getD j 0 := ⟨_, rfl⟩
      rw [← hc] at hr u2 u3
      obtain ⟨q1, q2, q3, q4, q5, q6, _⟩ := cc_rng u3.1 u3.2
      obtain ⟨w1, w2, w3⟩ := wcode (k := cK c) (r := cR c) (o := cO c) (by omega) (by omega) (by omega) (by omega) (by omega) (by omega)
      refine ⟨if x3 = 0 then cK c else if x3 = 1 then cR c else cO c, s1, s2, ?_, ?_, a7⟩
      · rw [hcl, if_pos (by omega), if_neg (by omega), if_neg (by omega), rd_ok (by omega) (by omega), Option.bind_some, hr]
        unfold wcd FX11_partOf FX11_partOf_b27
        rw [w1, w2, w3]
        by_cases y0 : x3 = 0
        · rw [if_pos y0, if_pos y0, Option.bind_some]
        · rw [if_neg y0, if_neg y0]
          by_cases y1 : x3 = 1
          · rw [if_pos y1, if_pos y1, Option.bind_some]
          · rw [if_neg y1, if_neg y1, Option.bind_some]
      · rw [hre, if_neg (by omega), if_pos e, w32_id (by omega) (by omega), u4]
        show ((rd s2 151 1501 (u : Int)).bind fun v_3685 => ((FX12_part N s2 v_3685 x3).bind fun v_3686 => (some (v_3686, s2)))) = _
        rw [rd_ok (by omega) (by omega), Option.bind_some, u2, FX12_part_ok u3.1 u3.2, Option.bind_some]
    · refine ⟨-2, s1, s2, ?_, ?_, a7⟩
      · rw [hcl, if_pos (by omega), if_pos (by omega)]
      · rw [hre, if_neg (by omega), if_neg e]
        unfold FX12_row_b44 FX12_row_b56
        rw [if_pos (by omega)]
