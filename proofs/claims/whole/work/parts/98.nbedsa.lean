-- BEDS: both
theorem fb_loop {N qh : Nat} {x0 : iv_M} {P n tg : Nat} {h : List Nat} {kx : iv_M → Option (Int × iv_M)} (hN : 100 ≤ N) (hP : P ≤ 6) (hn : n ≤ 12) (htg : tg < P) (hp : x0 qh 2 = P) (hr : x0 (qh + 1) 2 = n) (hqh : qh + 1 < 110) : ∀ (d q f : Nat) (x : iv_M) (may : Nat → Nat → Bool) (t : List (List Nat)), q + d = tg → d < f → bwf may n P = h :: t → (∀ l, l ∈ bwf may n P → ∀ j, j < q → h.getD j 12 = l.getD j 12) → (∀ p : Nat, p < 6 → bSt (x 110 p) (may p)) → (∀ a, a ≠ 110 → a ≠ 111 → x a = x0 a) → ∃ z, FX4_firstBed_l2 N 102 qh (tg : Int) kx f x (q : Int) = some (((h.getD tg 12 : Nat) : Int), z) ∧ ∀ a, a ≠ 110 → a ≠ 111 → z a = x0 a := by
  intro d
  induction d with
  | zero =>
    intro q f x may t hq hf hA hpre hb ho
    obtain ⟨f', rfl⟩ : ∃ f', f = f' + 1 := ⟨f - 1, by omega⟩
    have hh : h ∈ bwf may n P := by rw [hA]; exact List.mem_cons_self
    have hk := bas_lt P 0 (fun _ => false) h hh q (by omega)
    have hlen := bas_length P 0 (fun _ => false) h hh
    have hle : ∀ l, l ∈ bwf may n P → h.getD q 12 ≤ l.getD q 12 := fun l hl => bxl_at h l q (bas_first P 0 (fun _ => false) h t hA l hl) (by rw [hlen, bas_length P 0 (fun _ => false) l hl]) (hpre l hl) (by omega)
    obtain ⟨y, y1, y2, y3, y4⟩ := fb_try (N := N) (qh := qh) (x0 := x) (may := may) (P := P) (n := n) (q := q) (tg := (tg : Int)) (v := x 110 q) (kx := fun (s_862 : iv_M) (x863_5 : Int) => (FX4_firstBed_b74 N s_862 102 qh (tg : Int) (q : Int) x863_5 (FX4_firstBed_l2 N 102 qh (tg : Int) kx f') kx)) hN hP hn (by omega) (by rw [ho qh (by omega) (by omega)]; exact hp) (by rw [ho (qh + 1) (by omega) (by omega)]; exact hr) hqh (hb q (by omega)) (fun p hp6 _ => hb p hp6) (h.getD q 12) (by omega) (fun r hr1 => by
      rw [List.filter_eq_nil_iff]
      intro l hl
      have := hle l hl
      simp only [beq_iff_eq]; omega) (fun _ z => by
      rw [List.filter_eq_nil_iff] at z
      exact z h hh (by simp)) (h.getD q 12) 0 N x (by omega) (by omega) (fun _ _ _ => rfl) (fun _ _ => rfl)
    refine ⟨y, ?_, fun a a1 a2 => by rw [y2 a a1 a2, ho a a1 a2]⟩
    rw [FX4_firstBed_l2, if_neg (by omega)]
    simp only [Nat.reduceAdd]
    rw [rd_ok (by omega) (by omega), Option.bind_some]
    refine Eq.trans y1 ?_
    show FX4_firstBed_b74 N y 102 qh (tg : Int) (q : Int) (if h.getD q 12 < n then ((h.getD q 12 : Nat) : Int) else -1) (FX4_firstBed_l2 N 102 qh (tg : Int) kx f') kx = _
    unfold FX4_firstBed_b74
    rw [if_pos hk, if_neg (by omega), if_pos (by omega), show tg = q by omega]
  | succ d ih =>
    intro q f x may t hq hf hA hpre hb ho
    obtain ⟨f', rfl⟩ : ∃ f', f = f' + 1 := ⟨f - 1, by omega⟩
    have hh : h ∈ bwf may n P := by rw [hA]; exact List.mem_cons_self
    have hk := bas_lt P 0 (fun _ => false) h hh q (by omega)
    have hlen := bas_length P 0 (fun _ => false) h hh
    have hle : ∀ l, l ∈ bwf may n P → h.getD q 12 ≤ l.getD q 12 := fun l hl => bxl_at h l q (bas_first P 0 (fun _ => false) h t hA l hl) (by rw [hlen, bas_length P 0 (fun _ => false) l hl]) (hpre l hl) (by omega)
    obtain ⟨y, y1, y2, y3, y4⟩ := fb_try (N := N) (qh := qh) (x0 := x) (may := may) (P := P) (n := n) (q := q) (tg := (tg : Int)) (v := x 110 q) (kx := fun (s_862 : iv_M) (x863_5 : Int) => (FX4_firstBed_b74 N s_862 102 qh (tg : Int) (q : Int) x863_5 (FX4_firstBed_l2 N 102 qh (tg : Int) kx f') kx)) hN hP hn (by omega) (by rw [ho qh (by omega) (by omega)]; exact hp) (by rw [ho (qh + 1) (by omega) (by omega)]; exact hr) hqh (hb q (by omega)) (fun p hp6 _ => hb p hp6) (h.getD q 12) (by omega) (fun r hr1 => by
      rw [List.filter_eq_nil_iff]
      intro l hl
      have := hle l hl
      simp only [beq_iff_eq]; omega) (fun _ z => by
      rw [List.filter_eq_nil_iff] at z
      exact z h hh (by simp)) (h.getD q 12) 0 N x (by omega) (by omega) (fun _ _ _ => rfl) (fun _ _ => rfl)
    have hA2 : bwf (bto may q (h.getD q 12)) n P = (bwf may n P).filter (fun l => l.getD q 12 == h.getD q 12) := bto_count (by omega)
    have hA3 : bwf (bto may q (h.getD q 12)) n P = h :: t.filter (fun l => l.getD q 12 == h.getD q 12) := by rw [hA2, hA, List.filter_cons_of_pos (by simp)]
    obtain ⟨z, z1, z2⟩ := ih (q + 1) f' y (bto may q (h.getD q 12)) _ (by omega) (by omega) hA3 (fun l hl j hj => by
      rw [hA2, List.mem_filter] at hl
      by_cases e : j = q
      · rw [e]; have := hl.2; simp only [beq_iff_eq] at this; exact this.symm
      · exact hpre l hl.1 j (by omega)) (fun p hp6 => by
      by_cases e : p = q
      · rw [e]; exact y4 hk
      · rw [y3 p e]
        refine bSt_congr (fun r _ => ?_) (hb p hp6)
        unfold bto
        have : (p != q) = true := by simp [e]
        rw [this, Bool.true_or, Bool.and_true]) (fun a a1 a2 => by rw [y2 a a1 a2, ho a a1 a2])
    refine ⟨z, ?_, z2⟩
    rw [FX4_firstBed_l2, if_neg (by omega)]
    simp only [Nat.reduceAdd]
    rw [rd_ok (by omega) (by omega), Option.bind_some]
    refine Eq.trans y1 ?_
    show FX4_firstBed_b74 N y 102 qh (tg : Int) (q : Int) (if h.getD q 12 < n then ((h.getD q 12 : Nat) : Int) else -1) (FX4_firstBed_l2 N 102 qh (tg : Int) kx f') kx = _
    unfold FX4_firstBed_b74
    rw [if_pos hk, if_neg (by omega), if_neg (by omega), w32_id (by omega) (by omega)]
    exact z1
theorem firstBed_ok {N qh : Nat} {x0 : iv_M} {may : Nat → Nat → Bool} {P n tg : Nat} (hN : 100 ≤ N) (hP : P ≤ 6) (hn : n ≤ 12) (htg : tg < P) (hp : x0 qh 2 = P) (hr : x0 (qh + 1) 2 = n) (hqh : qh + 1 < 110) (hb : ∀ p : Nat, p < 6 → bSt (x0 110 p) (may p)) : ∃ z v, FX4_firstBed N x0 102 qh (tg : Int) = some (v, z) ∧ (bwf may n P = [] → v = -2) ∧ (∀ h t, bwf may n P = h :: t → v = ((h.getD tg 12 : Nat) : Int)) ∧ ∀ a, a ≠ 110 → a ≠ 111 → z a = x0 a := by
  cases hA : bwf may n P with
  | nil =>
    obtain ⟨f, hf⟩ : ∃ f, N = f + 1 := ⟨N - 1, by omega⟩
    obtain ⟨y, y1, y2, _⟩ := fb_try (N := N) (qh := qh) (x0 := x0) (may := may) (P := P) (n := n) (q := 0) (tg := (tg : Int)) (v := x0 110 ((0 : Nat) : Int)) (kx := fun (s_862 : iv_M) (x863_5 : Int) => (FX4_firstBed_b74 N s_862 102 qh (tg : Int) ((0 : Nat) : Int) x863_5 (FX4_firstBed_l2 N 102 qh (tg : Int) (fun (s_858 : iv_M) => (some ((-2), s_858))) f) (fun (s_858 : iv_M) => (some ((-2), s_858))))) hN hP hn (by omega) hp hr hqh (hb 0 (by omega)) (fun p hp6 _ => hb p hp6) n (Nat.le_refl n) (fun r _ => by rw [hA]; rfl) (fun z => by omega) n 0 N x0 (by omega) (by omega) (fun _ _ _ => rfl) (fun _ _ => rfl)
    refine ⟨y, -2, ?_, fun _ => rfl, (fun h t e => by cases e), y2⟩
    have st : FX4_firstBed_l2 N 102 qh (tg : Int) (fun (s_858 : iv_M) => (some ((-2), s_858))) (f + 1) x0 0 = some (-2, y) := by
      rw [FX4_firstBed_l2, if_neg (by omega)]
      simp only [Nat.reduceAdd]
      rw [rd_ok (by omega) (by omega), Option.bind_some]
      refine Eq.trans y1 ?_
      rw [if_neg (by omega)]
      unfold FX4_firstBed_b74
      rw [if_pos rfl]
    rw [← hf] at st
    exact st
  | cons h t =>
    obtain ⟨z, z1, z2⟩ := fb_loop (N := N) (qh := qh) (x0 := x0) (P := P) (n := n) (tg := tg) (h := h) (kx := fun (s_858 : iv_M) => (some ((-2), s_858))) hN hP hn htg hp hr hqh tg 0 N x0 may t (by omega) (by omega) hA (fun l _ j hj => by omega) hb (fun _ _ _ => rfl)
    refine ⟨z, ((h.getD tg 12 : Nat) : Int), z1, (fun e => by cases e), fun h' t' e => ?_, z2⟩
    have : h = h' := by injection e
    rw [this]
theorem ct_beds {t : Int} {N : Nat} {s : iv_M} {x : Int} (hN : 20000000 ≤ N) (h : Inv t s) (t0 : 0 ≤ t) (t1 : t ≤ 1000) : ∃ a s1 s2, FX11_beds N s 0 x = some (a, s1) ∧ FX12_beds N s1 113 x = some (a, s2) ∧ Inv (t + 1) s2 := by
  have hI := h
  obtain ⟨h1, h2, h3, h4, h5, h6, h7, h8, h9, h10⟩ := h
  obtain ⟨m1, m2, m3⟩ := now_ne h1
  have hn := (now_HQ h1).2.1
  have hq : (s 0 4).toNat = now s := rfl
  obtain ⟨hW, ⟨p3, _, _, _, _, a8, _, _, _, p12, _⟩, _⟩ := id h3
  have a4 := hW.1.2.2.2.2.1
  have a5 := hW.1.2.2.2.2.2.1
  have hHB := h2.1.2.1
  have hF := h2.2.1.1
  have hto := HR1_told h2.1
  by_cases C : 0 < s 114 0 ∧ (0 ≤ x ∧ x ≤ 6)
  rotate_left
  · refine ⟨-1, s, s, ?_, ?_, HR1_mono (by omega) hI⟩
    · unfold FX11_beds FX11_beds_b20
      rw [hq]
      by_cases e0 : s (now s) 0 = 0
      · rw [if_pos e0]
      have hp : 0 < s 114 0 := by
        by_cases z : 0 < s 114 0
        · exact z
        · exact absurd (hto.mpr z) e0
      rw [if_neg e0]
      by_cases e1 : x < 0
      · rw [if_pos e1]
      rw [if_neg e1, if_neg (fun z => C ⟨hp, by omega, z⟩)]
    · unfold FX12_beds FX12_beds_b19
      rw [told_ref, Option.bind_some]
      by_cases e0 : 0 < s 114 0
      · rw [if_pos e0, if_neg (by decide), FX12_in_ok, Option.bind_some, if_neg (fun z => C ⟨e0, z⟩), if_pos rfl]
      · rw [if_neg e0, if_pos rfl]
  obtain ⟨hp, c1⟩ := C
  have e0 : ¬ s (now s) 0 = 0 := fun z => hto.mp z hp
  obtain ⟨ru, hR⟩ := Rl_RUO h5 p12
  obtain ⟨o3, e1, e2⟩ := ruleIn_ok (N := N) hq h2.1.2.2.2.2.1 h5.2.2.2.1 h5.2.2.1 hR
  obtain ⟨w, w1, w2, w3, w4⟩ := roomsWished_ok (N := N) (q := now s) (s := s) (B := s) (ru := ru) (by omega) hn (WH_m.mp h3) (by omega) h10 h2 e2
  have w0 : w 0 = s 0 := w3 0 (by omega) (by omega)
  have hwp : w (now s) 2 = ((s 114 3).toNat : Int) := by rw [w3 _ (by omega) (by omega), hHB.2.1]; omega
  have hwr : w (now s + 1) 2 = ((s 114 2).toNat : Int) := by rw [w3 _ (by omega) (by omega), hF.2.2.1]; omega
  have hcl : FX11_beds N s 0 x = (if x = 0 then ((FX4_layPeople N w 102 (now s)).bind fun r_2142 => (some (r_2142.1, r_2142.2))) else (if (if 0 ≤ x - 1 ∧ x - 1 < s 114 3 then (1 : Int) else 0) = 0 then some (-2, w) else ((FX4_firstBed N w 102 (now s) (x - 1)).bind fun r_2140 => (some (r_2140.1, r_2140.2))))) := by
    unfold FX11_beds FX11_beds_b92
    simp only [Nat.reduceAdd, Nat.zero_add]
    rw [hq, if_neg e0, if_neg (by omega), if_pos c1.2, e1, Option.bind_some, w1, Option.bind_some, w0, hq, w32_id (x := x - 1) (by omega) (by omega), FX2_isPerson_ok (B := s) (HB_ext (w3 _ (by omega) (by omega)) (w3 _ (by omega) (by omega)) hHB), Option.bind_some]
  have ref : ∀ s1 : iv_M, (∀ a, (a < 81 ∨ 90 < a) → a ≠ 110 → a ≠ 111 → s1 a = s a) → ∃ s2, FX12_beds N s1 113 x = (if x = 0 then some (((bwl ru s).length : Int), s2) else (if ((bwl ru s).length : Int) = 0 then some (-2, s2) else (if (if 0 ≤ x - 1 ∧ x - 1 < s 114 3 then (1 : Int) else 0) = 0 then some (-2, s2) else some (s2 166 (x - 1), s2)))) ∧ Eb s s2 ∧ bTb (s 114 3).toNat (bwl ru s).length s2 (bwl ru s) ∧ bR1 s1 s2 := fun s1 os1 => by
    have hb : Eb s s1 := fun a z0 z1 => os1 a (by omega) (by omega) (by omega)
    have e4 := hb 114 (by omega) (by omega)
    obtain ⟨s2, r1, r2, r3, r4⟩ := findsBeds_ok (N := N) (s := s1) (B := s) (ru := ru) hN (WH_m.mp h3) (by omega) h10 hb (RUO_ext (fun a ha => os1 a (by omega) (by omega) (by omega)) hR)
    refine ⟨s2, ?_, r2, r3, r4⟩
    have e42 := r2 114 (by omega) (by omega)
    unfold FX12_beds FX12_beds_b48 FX12_beds_b61
    simp only [Nat.reduceAdd]
    rw [told_ref, Option.bind_some, e4, if_pos hp, if_neg (by decide), FX12_in_ok, Option.bind_some, if_pos c1, if_neg (by decide), r1, Option.bind_some]
    dsimp only
    by_cases x0 : x = 0
    · rw [if_pos x0, if_pos x0]
    rw [if_neg x0, if_neg x0, w32_id (x := x - 1) (by omega) (by omega), FX12_isPerson_ok (by rw [e42]; exact p3.1) (by rw [e42]; exact p3.2), Option.bind_some, e42, rd_ok (by omega) (by omega), Option.bind_some]
  by_cases x0 : x = 0
  · obtain ⟨s1, l1, l2⟩ := layPeople_ok (N := N) (qh := now s) (may := bmy ru s) (P := (s 114 3).toNat) (n := (s 114 2).toNat) (s := w) (by omega) (by omega) (by omega) hwp hwr (by omega) (by omega) (fun p r hp hr => (w2 p (by omega)).2.2 r (by omega))
    have os1 : ∀ a, (a < 81 ∨ 90 < a) → a ≠ 110 → a ≠ 111 → s1 a = s a := fun a z0 z1 z2 => by rw [l2 a z2, w3 a z0 z1]
    obtain ⟨s2, r1, r2, r3, r4⟩ := ref s1 os1
    refine ⟨((bwl ru s).length : Int), s1, s2, ?_, by rw [r1, if_pos x0], bed_inv hI t0 os1 (fun i hi => by rw [l2 81 (by omega), w4 i hi]) r2 r4⟩
    rw [hcl, if_pos x0, l1, Option.bind_some]; rfl
  by_cases pe : 0 ≤ x - 1 ∧ x - 1 < s 114 3
  rotate_left
  · obtain ⟨s2, r1, r2, r3, r4⟩ := ref w (fun a z0 z1 _ => w3 a z0 z1)
    refine ⟨-2, w, s2, by rw [hcl, if_neg x0, if_neg pe, if_pos rfl], ?_, bed_inv hI t0 (fun a z0 z1 _ => w3 a z0 z1) w4 r2 r4⟩
    rw [r1, if_neg x0, if_neg pe]
    split
    · rfl
    · rfl
  obtain ⟨tg, htg⟩ : ∃ tg : Nat, x - 1 = tg := ⟨(x - 1).toNat, by omega⟩
  obtain ⟨s1, v, l1, l2, l3, l4⟩ := firstBed_ok (N := N) (qh := now s) (x0 := w) (may := bmy ru s) (P := (s 114 3).toNat) (n := (s 114 2).toNat) (tg := tg) (by omega) (by omega) (by omega) (by omega) hwp hwr (by omega) w2
  have os1 : ∀ a, (a < 81 ∨ 90 < a) → a ≠ 110 → a ≠ 111 → s1 a = s a := fun a z0 z1 z2 => by rw [l4 a z1 z2, w3 a z0 z1]
  obtain ⟨s2, r1, r2, r3, r4⟩ := ref s1 os1
  refine ⟨v, s1, s2, ?_, ?_, bed_inv hI t0 os1 (fun i hi => by rw [l4 81 (by omega) (by omega), w4 i hi]) r2 r4⟩
  · rw [hcl, if_neg x0, if_pos pe, if_neg (by decide), htg, l1, Option.bind_some]
  · rw [r1, if_neg x0, if_pos pe, if_neg (show ¬ (1 : Int) = 0 by decide)]
    cases hA : bwl ru s with
    | nil =>
      rw [if_pos (by rfl), l2 hA]
    | cons a as =>
      rw [if_neg (by show ¬ ((as.length + 1 : Nat) : Int) = 0; omega), l3 a as hA, htg]
      have := r3.2.2 a as hA tg (by omega)
      rw [this]
