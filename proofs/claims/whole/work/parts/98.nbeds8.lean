-- BEDS: rooms wished, and almost
def bJ (B : iv_M) (t : Nat) : Nat := if t = 0 then 0 else min (t - 1) (B 114 8).toNat
theorem nights_l {N q : Nat} {s B : iv_M} {ru : Option (List (List (Int × Int)))} {m : Int} {kx : iv_M → Option iv_M} (hN : 1000 ≤ N) (hq : q = 9 ∨ q = 31) (hB : WHm m B) (hm : m ≤ 40000) (hO : OZ B) (hH : HR s q B) : ∀ (d t f : Nat) (x s0 : iv_M), t + d = 11 → d < f → TrR q ru s0 (liv ru B (bJ B t)).1 (liv ru B (bJ B t)).2 x → (∀ a, a ≠ 110 → s0 a = s a) → (∀ p : Nat, p < 6 → bSt (x 110 p) (bmq ru B t 0 p)) → ∃ x' s0' P v, FX10_roomsWished_l24 N 81 q 110 kx f x (t : Int) = kx x' ∧ TrR q ru s0' P v x' ∧ (∀ a, a ≠ 110 → s0' a = s a) ∧ ∀ p : Nat, p < 6 → bSt (x' 110 p) (bmq ru B 11 0 p) := by
  have hrows := HQ_rows (q := q) (by unfold HQ; omega)
  have a8 := hB.2.1.2.2.2.2.2.1
  have a9 := hB.2.1.2.2.2.2.2.2.1
  have h6 := hH.2.2.2.2.2
  have hs17 : ((sh (q + 16 + 1)).2 : Int) = 10 := by show ((sh (q + 17)).2 : Int) = 10; rw [hrows.2.2.2.1]; rfl
  intro d
  induction d with
  | zero =>
    intro t f x s0 ht hf hx ho hb
    obtain ⟨f', rfl⟩ : ∃ f', f = f' + 1 := ⟨f - 1, by omega⟩
    have : t = 11 := by omega
    subst this
    refine ⟨x, s0, _, _, ?_, hx, ho, hb⟩
    rw [FX10_roomsWished_l24, if_pos (by decide)]
  | succ d ih =>
    intro t f x s0 ht hf hx ho hb
    obtain ⟨f', rfl⟩ : ∃ f', f = f' + 1 := ⟨f - 1, by omega⟩
    have h16 : x (q + 16) 1 = B 114 8 := by rw [hx.2.2.2 (q + 16) (by omega), ho (q + 16) (by omega)]; exact h6.1
    have go : ∀ (J : Nat) (y : iv_M), (J : Int) ≤ B 114 8 → J = bJ B (t + 1) → ((t : Int) ≤ B 114 8 → J = t) → TrR q ru s0 (liv ru B J).1 (liv ru B J).2 y → (∀ p : Nat, p < 6 → bSt (y 110 p) (bmq ru B t 0 p)) → ∃ x' s0' P v, FX10_roomsWished_b77 N y 81 q 110 (t : Int) (if (t : Int) ≤ B 114 8 then 1 else 0) (FX10_roomsWished_l24 N 81 q 110 kx f') kx = kx x' ∧ TrR q ru s0' P v x' ∧ (∀ a, a ≠ 110 → s0' a = s a) ∧ ∀ p : Nat, p < 6 → bSt (x' 110 p) (bmq ru B 11 0 p) := fun J y hJ hJ1 hJt hy hyb => by
      obtain ⟨f1, _, _⟩ := liv_ok (ru := ru) hB hO J hJ
      obtain ⟨x1, s1, u1, u2, u3, u4⟩ := wish_l (N := N) (q := q) (s := s) (B := B) (ru := ru) (t := (t : Int)) (cm := if (t : Int) ≤ B 114 8 then 1 else 0) (kx := fun (s_1620 : iv_M) => (FX10_roomsWished_l24 N 81 q 110 kx f' s_1620 (w32 ((t : Int) + 1)))) hq hB hH (by omega) rfl (liv ru B J).1 (liv ru B J).2 f1.1.1 (f1.2.2.1 2 (by omega)) (fun hc => by rw [hJt hc, Int.toNat_natCast]) (B 114 9).toNat 0 N y s0 (by omega) (by omega) hy ho hyb
      obtain ⟨x', s0', P, v, w1, w2⟩ := ih (t + 1) f' x1 s1 (by omega) (by omega) (by rw [← hJ1]; exact u2) u3 u4
      refine ⟨x', s0', P, v, ?_, w2⟩
      unfold FX10_roomsWished_b77
      refine Eq.trans u1 ?_
      show FX10_roomsWished_l24 N 81 q 110 kx f' x1 (w32 ((t : Int) + 1)) = _
      rw [w32_id (by omega) (by omega)]
      exact w1
    rw [FX10_roomsWished_l24, if_neg (by omega), h16]
    by_cases ct : B 114 8 < (t : Int)
    · rw [if_pos ct]
      unfold FX10_roomsWished_b48
      rw [if_pos rfl]
      have g := go (bJ B t) x (by unfold bJ; split <;> omega) (by unfold bJ; rw [if_neg (by omega), if_neg (by omega)]; omega) (fun hc => by omega) hx hb
      rw [if_neg (by omega)] at g
      exact g
    · rw [if_neg ct]
      unfold FX10_roomsWished_b48
      rw [if_neg (by decide)]
      by_cases t0 : (t : Int) ≤ 0
      · rw [if_pos t0]
        have te : t = 0 := by omega
        have g := go (bJ B t) x (by unfold bJ; rw [if_pos te]; omega) (by unfold bJ; rw [if_pos te, if_neg (by omega)]; omega) (fun hc => by unfold bJ; rw [if_pos te]; omega) hx hb
        rw [if_pos (by omega)] at g
        exact g
      · rw [if_neg t0, hs17, w32_id (x := (t : Int) - 1) (by omega) (by omega), rd_ok (by omega) (by omega), Option.bind_some]
        have hJe : bJ B t = ((t : Int) - 1).toNat := by unfold bJ; rw [if_neg (by omega)]; omega
        have h60 : HR6 s0 q B := by
          unfold HR6 at h6 ⊢
          rw [ho (q + 16) (by omega), ho (q + 17) (by omega), ho (q + 18) (by omega), ho (q + 19) (by omega), ho (q + 20) (by omega), ho (q + 21) (by omega)]
          exact h6
        obtain ⟨y, l1, l2⟩ := live_step (N := N) (q := q) (s := s0) (x := x) (B := B) (i := (t : Int) - 1) (ru := ru) hN hq hB (by omega) hO h60 (by omega) (by omega) (by rw [← hJe]; exact hx)
        have l1' : FX10_liveOne N x 81 (w32 (x (q + 16 + 1) ((t : Int) - 1))) = some y := l1
        rw [l1', Option.bind_some]
        rw [show ((t : Int) - 1 + 1).toNat = t by omega] at l2
        have y110 : y 110 = x 110 := by rw [l2.2.2.2 110 (by omega), hx.2.2.2 110 (by omega)]
        have g := go t y (by omega) (by unfold bJ; rw [if_neg (by omega)]; omega) (fun _ => rfl) l2 (fun p hp => by rw [y110]; exact hb p hp)
        rw [if_pos (by omega)] at g
        exact g
theorem bSt_full {n : Nat} (hn : n ≤ 12) : bSt (((2 ^ n : Nat) : Int) - 1) (fun r => decide (r < n)) := by
  have h1 : 2 ^ n ≤ 2 ^ 12 := Nat.pow_le_pow_right (by decide) hn
  have h2 : (2 : Nat) ^ 12 = 4096 := by decide
  have h0 := Nat.two_pow_pos n
  have e : ((2 ^ n : Nat) : Int) - 1 = ((2 ^ n - 1 : Nat) : Int) := by omega
  rw [e]
  refine ⟨by omega, by omega, fun j hj => ?_⟩
  rw [tb_iff (by omega), Nat.testBit_two_pow_sub_one]
theorem roomsWished_ok {N q : Nat} {s B : iv_M} {ru : Option (List (List (Int × Int)))} {m o3 : Int} (hN : 1000 ≤ N) (hq : q = 9 ∨ q = 31) (hB : WHm m B) (hm : m ≤ 40000) (hO : OZ B) (hH : HR s q B) (hR : RuX s o3 ru) : ∃ x, FX10_roomsWished N s 81 q o3 110 = some x ∧ (∀ p : Nat, p < 6 → bSt (x 110 p) (bmy ru B p)) ∧ (∀ a, (a < 81 ∨ 90 < a) → a ≠ 110 → x a = s a) ∧ ∀ i, i ≠ 2 → x 81 i = s 81 i := by
  have a4 := hB.1.1.2.2.2.2.1
  have a5 := hB.1.1.2.2.2.2.2.1
  have a9 := hB.2.1.2.2.2.2.2.2.1
  have e7 := hB.2.2.2.2.2.2.2.2.1
  obtain ⟨b, b1, b2⟩ := begin_ok (N := N) (q := q) (s := s) (B := B) (o3 := o3) (ru := ru) (by omega) hq hH.1 hB.1 hH.2.1.1 hH.2.1.2 hR
  have n2 : b (q + 1) 2 = B 114 2 := by rw [b2.2.2.2 (q + 1) (by omega)]; exact hH.2.1.1.2.2.1
  obtain ⟨F, hF⟩ : ∃ F, F = ((2 ^ (B 114 2).toNat : Nat) : Int) - 1 := ⟨_, rfl⟩
  have hv : w32 (sl32 1 (b (q + 1) 2) - 1) = F := by
    have h1 : 2 ^ (B 114 2).toNat ≤ 2 ^ 12 := Nat.pow_le_pow_right (by decide) (by omega)
    have h2 : (2 : Nat) ^ 12 = 4096 := by decide
    have h0 := Nat.two_pow_pos (B 114 2).toNat
    rw [n2, sl32_1 (by omega) (by omega), w32_id (by omega) (by omega), hF]
  have fl := fill_ok (N := N) (q := 110) (s := b) (v := F) (n := 6) (by decide) (by omega)
  obtain ⟨g, hg⟩ : ∃ g, g = flM b 110 6 F := ⟨_, rfl⟩
  have og : ∀ a, a ≠ 110 → g a = b a := fun a ha => by rw [hg]; funext i; exact fl_ne ha
  obtain ⟨s0, hs0⟩ : ∃ s0 : iv_M, s0 = fun a => if a = 110 then g 110 else s a := ⟨_, rfl⟩
  have so : ∀ a, a ≠ 110 → s0 a = s a := fun a ha => by rw [hs0]; exact if_neg ha
  have hTr : TrR q ru s0 B 0 g := by
    obtain ⟨⟨l1, l2, l3⟩, t2, t3, t4⟩ := b2
    refine ⟨⟨LR_ext (fun i _ => by rw [og 89 (by omega)]) (og _ (by omega)) (og _ (by omega)) (fun a ha => og a (by omega)) l1, FRc_ext (fun a y0 y1 => og a (by omega)) l2, FP_ext (og _ (by omega)) l3⟩, by rw [og 81 (by omega)]; exact t2, fun i hi => by rw [og 81 (by omega), so 81 (by omega)]; exact t3 i hi, fun a ha => ?_⟩
    by_cases e : a = 110
    · rw [e, hs0]; exact (if_pos rfl).symm
    · rw [og a e, so a e]; exact t4 a ha
  obtain ⟨x, s0', P, v, w1, w2, w3, w4⟩ := nights_l (N := N) (q := q) (s := s) (B := B) (ru := ru) (kx := fun (s_1610 : iv_M) => some s_1610) hN hq hB hm hO hH 11 0 N g s0 (by omega) (by omega) hTr so (fun p hp => by
    rw [hg, fl_eq (by omega) (by omega), hF]
    refine bSt_congr (fun r _ => ?_) (bSt_full (n := (B 114 2).toNat) (by omega))
    rw [Bool.eq_iff_iff, bmq_iff, decide_eq_true_iff]
    constructor
    · intro z
      refine ⟨z, fun k k1 k2 => ?_⟩
      have := (e7 k (by omega) (by omega)).2.1.1
      omega
    · intro z; exact z.1)
  refine ⟨x, ?_, fun p hp => bSt_congr (fun r _ => ?_) (w4 p hp), fun a ha h1 => by rw [w2.2.2.2 a ha, w3 a h1], fun i hi => by rw [w2.2.2.1 i hi, w3 81 (by omega)]⟩
  · unfold FX10_roomsWished
    rw [b1, Option.bind_some, hv, fl, Option.bind_some, ← hg]
    exact w1
  · unfold bmy bmk
    rw [Bool.eq_iff_iff, bmq_iff, Bool.and_eq_true, decide_eq_true_iff, decide_eq_true_iff]
    constructor
    · intro z
      exact ⟨z.1, fun k k1 k3 => z.2 k k1 (by have := (e7 k (by omega) (by omega)).2.1.2; omega) k3⟩
    · intro z; exact ⟨z.1, fun k k1 _ k3 => z.2 k k1 k3⟩
theorem bas_length {may : Nat → Nat → Bool} {n : Nat} : ∀ (d p : Nat) (u : Nat → Bool) (l : List Nat), l ∈ bas may n d p u → l.length = d := by
  intro d
  induction d with
  | zero => intro p u l hl; rw [show bas may n 0 p u = [[]] from rfl, List.mem_singleton] at hl; rw [hl]; rfl
  | succ d ih =>
    intro p u l hl
    have mem : ∀ (G : Nat → List (List Nat)) (k : Nat), l ∈ bfm G k → ∃ r, r < k ∧ l ∈ G r := by
      intro G k
      induction k with
      | zero => intro h; cases h
      | succ k ihk =>
        intro h
        have h' : l ∈ bfm G k ++ G k := h
        rw [List.mem_append] at h'
        rcases h' with h' | h'
        · obtain ⟨r, r1, r2⟩ := ihk h'; exact ⟨r, by omega, r2⟩
        · exact ⟨k, by omega, h'⟩
    obtain ⟨r, _, r2⟩ := mem _ n hl
    by_cases e : bok may u p r = true
    · have r2' : l ∈ (bas may n d (p + 1) (bad u r)).map (fun l => r :: l) := by
        have : (if bok may u p r = true then (bas may n d (p + 1) (bad u r)).map (fun l => r :: l) else []) = (bas may n d (p + 1) (bad u r)).map (fun l => r :: l) := if_pos e
        rw [← this]; exact r2
      rw [List.mem_map] at r2'
      obtain ⟨l', h1, h2⟩ := r2'
      rw [← h2]
      show l'.length + 1 = d + 1
      rw [ih _ _ l' h1]
    · have : (if bok may u p r = true then (bas may n d (p + 1) (bad u r)).map (fun l => r :: l) else []) = [] := if_neg e
      have r2' : l ∈ ([] : List (List Nat)) := by rw [← this]; exact r2
      cases r2'
theorem bto_count {may : Nat → Nat → Bool} {n P q r : Nat} (hq : q < P) : bas (bto may q r) n P 0 (fun _ => false) = (bas may n P 0 (fun _ => false)).filter (fun l => l.getD q 12 == r) := by
  rw [bas_to P 0 (fun _ => false) (Nat.zero_le _) (by omega)]
  refine List.filter_congr (fun l hl => ?_)
  have hlen := bas_length P 0 (fun _ => false) l hl
  rw [Nat.sub_zero]
  have : l.getD q n = l.getD q 12 := by
    rw [List.getD_eq_getElem?_getD, List.getD_eq_getElem?_getD, List.getElem?_eq_getElem (by omega)]; rfl
  rw [this]
theorem bed_inv {t : Int} {s s1 s2 : iv_M} (h : Inv t s) (t0 : 0 ≤ t) (hs1 : ∀ a, (a < 81 ∨ 90 < a) → a ≠ 110 → a ≠ 111 → s1 a = s a) (h81 : ∀ i, i ≠ 2 → s1 81 i = s 81 i) (hE : Eb s s2) (hs2 : bR1 s1 s2) : Inv (t + 1) s2 := by
  have hI := h
  obtain ⟨h1, h2, h3, h4, h5, h6, h7, h8, h9, h10⟩ := h
  obtain ⟨m1, m2, m3⟩ := now_ne h1
  have h0 : s1 0 = s 0 := hs1 0 (by omega) (by omega) (by omega)
  have far : ∀ a, a ≠ 113 → (a < 114 ∨ 131 < a) → a ≠ 146 → a ≠ 147 → a ≠ 154 → (a < 162 ∨ 167 < a) → s2 a = s1 a := hs2.1
  have h15 := h9.1
  exact Inv_bk (s1 := s1) hI (by omega) (fun i _ => by rw [h0]) (by rw [h0]; omega) (fun a ha => hs1 a (by omega) (by omega) (by omega)) (HR_ext (fun a z0 z1 => hs1 a (by omega) (by omega) (by omega)) h2) (WH_mono (by omega) h3) h5.2.2.2.1 h10 (fun a ha => far a (by omega) (by omega) (by omega) (by omega) (by omega) (by omega)) (fun i hi => hs2.2 i (by omega) (by omega) (by omega) (by omega)) hE (Me_tr ⟨h7, h8⟩ (Er.of_eb hE) (by rw [far 0 (by omega) (by omega) (by omega) (by omega) (by omega) (by omega), h0]) ⟨by rw [far 81 (by omega) (by omega) (by omega) (by omega) (by omega) (by omega), h81 7 (by omega)], by rw [far 81 (by omega) (by omega) (by omega) (by omega) (by omega) (by omega), h81 8 (by omega)]⟩ (fun a ha => by rw [far a (by omega) (by omega) (by omega) (by omega) (by omega) (by omega), hs1 a (by omega) (by omega) (by omega)]))
theorem ct_almost {t : Int} {N : Nat} {s : iv_M} {x y : Int} (hN : 20000000 ≤ N) (h : Inv t s) (t0 : 0 ≤ t) (t1 : t ≤ 1000) : ∃ a s1 s2, FX11_almost N s 0 x y = some (a, s1) ∧ FX12_almost N s1 113 x y = some (a, s2) ∧ Inv (t + 1) s2 := by
  have hI := h
  obtain ⟨h1, h2, h3, h4, h5, h6, h7, h8, h9, h10⟩ := h
  obtain ⟨m1, m2, m3⟩ := now_ne h1
  have hn := (now_HQ h1).2.1
  have hq : (s 0 4).toNat = now s := rfl
  obtain ⟨hW, ⟨p3, _, _, _, _, a8, _, _, _, p12, _⟩, _⟩ := id h3
  have a4 := hW.1.2.2.2.2.1
  have a5 := hW.1.2.2.2.2.2.1
  have hHB := h2.1.2.1
  have hF := h2.2.1.1
  by_cases C : (0 ≤ x ∧ x < s 114 3) ∧ (0 ≤ y ∧ y < s 114 2)
  rotate_left
  · refine ⟨-1, s, s, ?_, ?_, HR1_mono (by omega) hI⟩
    · unfold FX11_almost FX11_almost_b22
      rw [hq, FX2_isPerson_ok hHB, Option.bind_some]
      by_cases e : 0 ≤ x ∧ x < s 114 3
      · rw [if_pos e, if_neg (by decide), FX2_isRoom_ok hF, Option.bind_some, if_neg (fun z => C ⟨e, z⟩), if_pos rfl]
      · rw [if_neg e, if_pos rfl]
    · unfold FX12_almost FX12_almost_b16
      rw [FX12_isPerson_ok p3.1 p3.2, Option.bind_some]
      by_cases e : 0 ≤ x ∧ x < s 114 3
      · rw [if_pos e, if_neg (by decide), FX12_isRoom_ok hW.1, Option.bind_some, if_neg (fun z => C ⟨e, z⟩), if_pos rfl]
      · rw [if_neg e, if_pos rfl]
  obtain ⟨c1, c2⟩ := C
  obtain ⟨ru, hR⟩ := Rl_RUO h5 p12
  obtain ⟨o3, e1, e2⟩ := ruleIn_ok (N := N) hq h2.1.2.2.2.2.1 h5.2.2.2.1 h5.2.2.1 hR
  obtain ⟨w, w1, w2, w3, w4⟩ := roomsWished_ok (N := N) (q := now s) (s := s) (B := s) (ru := ru) (by omega) hn (WH_m.mp h3) (by omega) h10 h2 e2
  obtain ⟨xn, rfl⟩ := Int.eq_ofNat_of_zero_le c1.1
  obtain ⟨yn, rfl⟩ := Int.eq_ofNat_of_zero_le c2.1
  have hx6 : xn < 6 := by omega
  have hy12 : yn < 12 := by omega
  obtain ⟨v, hv⟩ : ∃ v, v = mu w 110 (xn : Int) (bAn (w 110 xn) (sl32 1 yn)) := ⟨_, rfl⟩
  have ov : ∀ a, a ≠ 110 → v a = w a := fun a ha => by rw [hv, mu_rw ha]
  have vb : ∀ p : Nat, p < 6 → bSt (v 110 p) (bto (bmy ru s) xn yn p) := fun p hp => by
    by_cases e : p = xn
    · rw [e, hv, mu_eq]
      refine bSt_congr (fun r _ => ?_) (bSt_an (w2 xn hx6) hy12)
      unfold bto
      have : (xn != xn) = false := by simp
      rw [this, Bool.false_or]
    · rw [hv, mu_ne (by omega)]
      refine bSt_congr (fun r _ => ?_) (w2 p hp)
      unfold bto
      have : (p != xn) = true := by simp [e]
      rw [this, Bool.true_or, Bool.and_true]
  have w0 : w 0 = s 0 := w3 0 (by omega) (by omega)
  have hvp : v (now s) 2 = ((s 114 3).toNat : Int) := by rw [ov _ (by omega), w3 _ (by omega) (by omega), hHB.2.1]; omega
  have hvr : v (now s + 1) 2 = ((s 114 2).toNat : Int) := by rw [ov _ (by omega), w3 _ (by omega) (by omega), hF.2.2.1]; omega
  obtain ⟨s1, l1, l2⟩ := layPeople_ok (N := N) (qh := now s) (may := bto (bmy ru s) xn yn) (P := (s 114 3).toNat) (n := (s 114 2).toNat) (s := v) (by omega) (by omega) (by omega) hvp hvr (by omega) (by omega) (fun p r hp hr => (vb p (by omega)).2.2 r (by omega))
  rw [bto_count (by omega)] at l1
  have os1 : ∀ a, (a < 81 ∨ 90 < a) → a ≠ 110 → a ≠ 111 → s1 a = s a := fun a z0 z1 z2 => by rw [l2 a z2, ov a z1, w3 a z0 z1]
  have hb : Eb s s1 := fun a z0 z1 => os1 a (by omega) (by omega) (by omega)
  have e4 := hb 114 (by omega) (by omega)
  obtain ⟨s2, r1, r2, r3, r4⟩ := findsBeds_ok (N := N) (s := s1) (B := s) (ru := ru) hN (WH_m.mp h3) (by omega) h10 hb (RUO_ext (fun a ha => os1 a (by omega) (by omega) (by omega)) hR)
  refine ⟨(((bwl ru s).filter (fun l => l.getD xn 12 == yn)).length : Int), s1, s2, ?_, ?_, bed_inv hI t0 os1 (fun i hi => by rw [l2 81 (by omega), ov 81 (by omega), w4 i hi]) r2 r4⟩
  rotate_left
  · unfold FX12_almost
    simp only [Nat.reduceAdd]
    rw [FX12_isPerson_ok (by rw [e4]; exact p3.1) (by rw [e4]; exact p3.2), Option.bind_some, e4, if_pos c1, if_neg (by decide), FX12_isRoom_ok (eb_Wf hb hW).1, Option.bind_some, e4, if_pos c2, if_neg (by decide), r1, Option.bind_some]
    dsimp only
    have := r3.2.1 xn yn (by omega) hy12
    rw [w32_id (x := 12 * (xn : Int)) (by omega) (by omega), w32_id (by omega) (by omega), show (12 : Int) * xn + yn = ((12 * xn + yn : Nat) : Int) by omega, rd_ok (by omega) (by omega), Option.bind_some, this]
  · unfold FX11_almost
    simp only [Nat.reduceAdd, Nat.zero_add]
    rw [hq, FX2_isPerson_ok hHB, Option.bind_some, if_pos c1, if_neg (by decide), FX2_isRoom_ok hF, Option.bind_some, if_pos c2, if_neg (by decide), e1, Option.bind_some, w1, Option.bind_some, rd_ok (by omega) (by omega), Option.bind_some, wr_ok (by omega) (by omega), Option.bind_some, ← hv, ov 0 (by omega), w0, hq, l1, Option.bind_some]
    rfl
