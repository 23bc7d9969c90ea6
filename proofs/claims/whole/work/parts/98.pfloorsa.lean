-- FLOORS: the reference's answer
theorem fsm_small {g : Int → Int × Int} (h : ∀ j, (g j).1 = 0 ∧ (g j).2 ≤ 1) : ∀ (m : Nat) (j : Int), (fsm g m j).1 = 0 ∧ (fsm g m j).2 ≤ m := by
  intro m
  induction m with
  | zero => intro j; exact ⟨rfl, Int.le_refl 0⟩
  | succ m ih =>
    intro j
    obtain ⟨a, b⟩ := h j
    obtain ⟨c, d⟩ := ih (j + 1)
    refine ⟨?_, ?_⟩
    · show (g j).1 + (fsm g m (j + 1)).1 = 0; omega
    · show (g j).2 + (fsm g m (j + 1)).2 ≤ ((m + 1 : Nat) : Int); omega
theorem flw_false {tn : Bool} {k : Int → Int} {r : Int} {rs : List Int} {P : iv_M} : (flw false tn k (r :: rs) P).1 = 0 ∧ (flw false tn k (r :: rs) P).2 ≤ 64 := by
  refine fsm_small (g := ftm false tn (k r) (fun Q => flw false tn k rs Q) P r) (fun j => ?_) 64 0
  unfold ftm fon
  split
  · rw [Bool.false_and, if_neg (by decide)]; exact ⟨rfl, Int.le_refl 1⟩
  · exact ⟨rfl, by show (0 : Int) ≤ 1; decide⟩
theorem fl_fin {N : Nat} {B z0 z : iv_M} (hN : 100 ≤ N) (hW : Wf B) (hO : OZ B) (hF : fFr (B 114 2) z0 z) (h0 : ∀ a, 114 ≤ a → a ≤ 131 → a ≠ 121 → z0 a = B a) (h21 : ∀ i, ¬ (0 ≤ i ∧ i < 16) → z0 121 i = B 121 i) (hk : ∀ r, 0 ≤ r → r < 12 → z0 154 (2 * r) = B 116 r ∧ z0 154 (2 * r + 1) = B 117 r) : ∃ s2, (∀ x4 x5, FX12_floors_b354 N z 113 x4 x5 = some (if x5 ≤ 20000 then x4 else -3, s2)) ∧ Eb B s2 ∧ (∀ a, (a < 114 ∨ 131 < a) → s2 a = z a) := by
  obtain ⟨f1, f2, f3, f4⟩ := hF
  have h12 := hW.1.2.2.2.2.2.1
  have hr0 := hW.1.2.2.2.2.1
  have z4 : z 114 = B 114 := by rw [f1 114 (by decide) (by decide) (by decide) (by decide) (by decide), h0 114 (by decide) (by decide) (by decide)]
  have zk : z 154 = z0 154 := f1 154 (by decide) (by decide) (by decide) (by decide) (by decide)
  have ly := FX12_laysFloor_ok (N := N) (q := 154) (s := z) (b := 0) (m := 24) hN (by omega) (by decide) (by omega) (by omega) (by rw [z4]; exact hr0) (by rw [z4]; exact h12) (fun r r0 r1 => by
    rw [z4] at r1
    obtain ⟨g1, g2, _⟩ := hW.room r0 r1
    have := (hk r r0 (by omega)).1
    rw [show 0 + 2 * r = 2 * r by omega, zk, this]; exact ⟨g1, g2⟩)
  have o67 : ∀ i, ¬ (0 ≤ i ∧ i < B 114 2) → z 116 i = B 116 i ∧ z 117 i = B 117 i := fun i hi => by
    rw [(f3 i hi).1, (f3 i hi).2, h0 116 (by decide) (by decide) (by decide), h0 117 (by decide) (by decide) (by decide)]; exact ⟨rfl, rfl⟩
  have l6 : ln 116 = 12 := by decide
  have l7 : ln 117 = 12 := by decide
  have l1 : ln 121 = 16 := by decide
  have hOz : OZ z := fun a a0 a1 i hi => by
    by_cases c6 : a = 116
    · subst c6; rw [(o67 i (by rw [l6] at hi; omega)).1]; exact hO 116 a0 a1 i hi
    by_cases c7 : a = 117
    · subst c7; rw [(o67 i (by rw [l7] at hi; omega)).2]; exact hO 117 a0 a1 i hi
    by_cases c1 : a = 121
    · subst c1; rw [f4 i (by rw [l1] at hi; exact hi), h21 i (by rw [l1] at hi; exact hi)]; exact hO 121 a0 a1 i hi
    rw [f1 a (by omega) c6 c7 c1 (by omega), h0 a a0 a1 c1]; exact hO a a0 a1 i hi
  have lb := lay_back (s := B) (P := z) (f := fun r => z 154 (0 + 2 * r)) (g := fun r => z 154 (0 + 2 * r + 1)) hW hO hOz (by rw [z4]) o67 (fun r r0 r1 => by
    have := hk r r0 (by omega)
    show z 154 (0 + 2 * r) = _ ∧ z 154 (0 + 2 * r + 1) = _
    rw [show 0 + 2 * r = 2 * r by omega, zk]; exact this)
  refine ⟨lay z (fun r => z 154 (0 + 2 * r)) (fun r => z 154 (0 + 2 * r + 1)), fun x4 x5 => ?_, fun a z0' z1' => ?_, fun a ha => lay_o (by omega) (by omega) (by omega)⟩
  · unfold FX12_floors_b354 FX12_floors_b378
    simp only [Nat.reduceAdd]
    rw [ly, Option.bind_some]
    by_cases e : x5 ≤ 20000
    · rw [if_pos e, if_pos e]
    · rw [if_neg e, if_neg e]
  · by_cases c6 : a = 116
    · subst c6; exact lb.1
    by_cases c7 : a = 117
    · subst c7; exact lb.2.1
    by_cases c1 : a = 121
    · subst c1; exact lb.2.2
    rw [lay_o c6 c7 c1, f1 a (by omega) c6 c7 c1 (by omega), h0 a z0' z1' c1]
theorem ftn_x3 {B : iv_M} (h : 0 ≤ B 114 4 ∧ B 114 4 ≤ 7) : (bAn (B 114 4) 4 ≤ 0 ∧ ftn B = false) ∨ (¬ bAn (B 114 4) 4 ≤ 0 ∧ ftn B = true) := by
  unfold ftn
  have : B 114 4 = 0 ∨ B 114 4 = 1 ∨ B 114 4 = 2 ∨ B 114 4 = 3 ∨ B 114 4 = 4 ∨ B 114 4 = 5 ∨ B 114 4 = 6 ∨ B 114 4 = 7 := by omega
  rcases this with e | e | e | e | e | e | e | e <;> rw [e] <;> decide
theorem floorsRef_ok {N : Nat} {s B : iv_M} (hN : 20000000 ≤ N) (hW : Wf B) (hx : ∀ r, 0 ≤ r → r < B 114 2 → B 118 r = 0 ∨ B 118 r = 1) (hO : OZ B) (hE : Eb B s) (hp : 0 < B 114 0) (hw : 0 ≤ B 114 4 ∧ B 114 4 ≤ 7) : ∃ s2, FX12_floors N s 113 = some (flA B, s2) ∧ Eb B s2 ∧ (∀ a, a ≠ 113 → (a < 114 ∨ 131 < a) → a ≠ 154 → a ≠ 157 → a ≠ 158 → a ≠ 159 → s2 a = s a) ∧ ∀ i, i ≠ 26 → i ≠ 27 → s2 113 i = s 113 i := by
  have h12 := hW.1.2.2.2.2.2.1
  have hr0 := hW.1.2.2.2.2.1
  obtain ⟨K, hK⟩ : ∃ K, K = flF s 154 0 12 := ⟨_, rfl⟩
  have Ko : ∀ a, a ≠ 154 → K a = s a := fun a ha => by rw [hK, flF_o ha]
  obtain ⟨C, hC⟩ : ∃ C, C = cpT K := ⟨_, rfl⟩
  have Co : ∀ a, a ≠ 159 → C a = K a := fun a ha => by rw [hC]; funext i; unfold cpT; rw [if_neg (fun z => ha z.1)]
  have CB : ∀ a, 114 ≤ a → a ≤ 131 → C a = B a := fun a a0 a1 => by rw [Co a (by omega), Ko a (by omega), hE a a0 a1]
  have hm : (((B 114 2).toNat : Nat) : Int) = B 114 2 := by omega
  obtain ⟨L, hL⟩ : ∃ L, L = flo (B 118) (B 114 2).toNat 0 := ⟨_, rfl⟩
  obtain ⟨P, hP⟩ : ∃ P, P = fP0 B (B 114 2) := ⟨_, rfl⟩
  have hT : fTP L P := by rw [hL, hP]; exact fP0_TP hW hm
  have P4 : P 114 = B 114 := by rw [hP]; exact fP0_o (by decide)
  have P5 : P 115 = B 115 := by rw [hP]; exact fP0_o (by decide)
  have P6 : P 116 = B 116 := by rw [hP]; exact fP0_o (by decide)
  have P7 : P 117 = B 117 := by rw [hP]; exact fP0_o (by decide)
  obtain ⟨z1, t1, t2, t3, t4⟩ := takes_ok (N := N) (s := C) (B := B) (kx := fun (s_3795 : iv_M) (x3796_1 : Int) => (some (x3796_1, s_3795))) hW hx (CB 114 (by decide) (by decide)) (CB 116 (by decide) (by decide)) (CB 118 (by decide) (by decide)) (B 114 2).toNat N 0 [] C (by omega) (by omega) (by omega) (by show ((0 : Nat) : Int) ≤ 0; omega) (fun _ _ _ => rfl) (by rw [fP0_0, CB 121 (by decide) (by decide)]) (fun j hj => by cases hj)
  rw [List.nil_append, ← hL] at t1 t4
  rw [← hP] at t3
  have Llen : (L.length : Int) ≤ 12 := by
    have : ∀ (m : Nat) (x : Int), (flo (B 118) m x).length ≤ m := by
      intro m
      induction m with
      | zero => intro x; exact Nat.le_refl 0
      | succ m ih =>
        intro x
        unfold flo
        split
        · have := ih (x + 1); omega
        · have := ih (x + 1); show (flo (B 118) m (x + 1)).length + 1 ≤ m + 1; omega
    have := this (B 114 2).toNat 0
    rw [hL]; omega
  have z1B : ∀ a, 114 ≤ a → a ≤ 131 → a ≠ 121 → z1 a = B a := fun a a0 a1 a2 => by rw [t2 a a2 (by omega), CB a a0 a1]
  have z1E : rE z1 P := by
    refine ⟨by rw [z1B 114 (by decide) (by decide) (by decide), P4], by rw [z1B 115 (by decide) (by decide) (by decide), P5], t3, fun c c0 c1 hn => ?_⟩
    have := placed hT.1 hT.2.1 c0 c1 hn
    rw [z1B 116 (by decide) (by decide) (by decide), z1B 117 (by decide) (by decide) (by decide), P7, ← P6]
    exact ⟨this.2.2.2.1, rfl⟩
  have hfr : ∀ r, 0 ≤ r → r < B 114 2 → B 118 r = 1 → 0 ≤ P 116 r ∧ P 116 r < 16 ∧ P 121 (P 116 r) = r := fun r r0 r1 rx => by
    obtain ⟨c0, c1, cr⟩ := hW.2.2 r r0 r1
    rw [P6]
    refine ⟨c0, c1, ?_⟩
    rw [hP]
    unfold fP0
    rw [if_neg (by rintro ⟨_, _, _, _, z⟩; rw [cr] at z; exact z rx), cr]
  have af := areFixed_ok (N := N) (z := z1) (P := P) (n := B 114 2) (by omega) z1E hT.1 hT.2.1 (by rw [P4]) (fun r r0 r1 => by rw [z1B 118 (by decide) (by decide) (by decide)]; exact hx r r0 r1) (fun r r0 r1 rx => by rw [z1B 118 (by decide) (by decide) (by decide)] at rx; exact hfr r r0 r1 rx) hr0 h12
  rw [z1B 118 (by decide) (by decide) (by decide)] at af
  obtain ⟨w, hw2⟩ : ∃ w, w = ffw P (B 118) (B 114 2).toNat 0 := ⟨_, rfl⟩
  rw [← hw2] at af
  obtain ⟨z2, hz2⟩ : ∃ z2, z2 = mu z1 158 0 0 := ⟨_, rfl⟩
  have z2o : ∀ a, a ≠ 158 → z2 a = z1 a := fun a ha => by rw [hz2, mu_rw ha]
  have z2E : rE z2 P := rE_row z1E (z2o _ (by decide)) (z2o _ (by decide)) (z2o _ (by decide)) (fun _ _ _ _ => by rw [z2o 116 (by decide), z2o 117 (by decide)]; exact ⟨rfl, rfl⟩)
  have z2F : fFr (B 114 2) z2 z2 := ⟨fun _ _ _ _ _ _ => rfl, fun _ _ _ => rfl, fun _ _ => ⟨rfl, rfl⟩, fun _ _ => rfl⟩
  have k154 : ∀ r, 0 ≤ r → r < 12 → z2 154 (2 * r) = B 116 r ∧ z2 154 (2 * r + 1) = B 117 r := fun r r0 r1 => by
    have := flF_c (s := s) (q := 154) (b := 0) r0 r1
    rw [show (0 : Int) + 2 * r = 2 * r by omega, hE 116 (by omega) (by omega), hE 117 (by omega) (by omega)] at this
    rw [z2o 154 (by decide), t2 154 (by decide) (by decide), Co 154 (by decide), hK]; exact this
  have k121 : ∀ i, ¬ (0 ≤ i ∧ i < 16) → z2 121 i = B 121 i := fun i hi => by
    rw [z2o 121 (by decide), t3, hP]
    unfold fP0
    rw [if_neg (by rintro ⟨_, u, v, _⟩; exact hi ⟨u, v⟩)]
  have farz : ∀ z, fFr (B 114 2) z2 z → ∃ s2, (∀ x4 x5, FX12_floors_b354 N z 113 x4 x5 = some (if x5 ≤ 20000 then x4 else -3, s2)) ∧ Eb B s2 ∧ (∀ a, a ≠ 113 → (a < 114 ∨ 131 < a) → a ≠ 154 → a ≠ 157 → a ≠ 158 → a ≠ 159 → s2 a = s a) ∧ ∀ i, i ≠ 26 → i ≠ 27 → s2 113 i = s 113 i := fun z zF => by
    obtain ⟨s2, a1, a2, a3⟩ := fl_fin (N := N) (by omega) hW hO zF (fun a a0 a1 a2 => by rw [z2o a (by omega), z1B a a0 a1 a2]) k121 k154
    refine ⟨s2, a1, a2, fun a u0 u1 u2 u3 u4 u5 => ?_, fun i u1 u2 => ?_⟩
    · rw [a3 a u1, zF.1 a u0 (by omega) (by omega) (by omega) u4, z2o a u4, t2 a (by omega) u3, Co a u5, Ko a u2]
    · rw [a3 113 (by omega), zF.2.1 i u1 u2, z2o 113 (by decide), t2 113 (by decide) (by decide), Co 113 (by decide), Ko 113 (by decide)]
  -- what the loop comes to
  have lp : ∀ x3 : Int, ((x3 = 1 ∧ ftn B = false) ∨ (x3 = 4 ∧ ftn B = true)) → ∃ s2, FX12_floors_b55 N z1 113 (L.length : Int) (if w = true then 1 else 0) x3 = some (flA B, s2) ∧ Eb B s2 ∧ (∀ a, a ≠ 113 → (a < 114 ∨ 131 < a) → a ≠ 154 → a ≠ 157 → a ≠ 158 → a ≠ 159 → s2 a = s a) ∧ ∀ i, i ≠ 26 → i ≠ 27 → s2 113 i = s 113 i := fun x3 h3 => by
    have hA : flA B = if w = true then (if (flw true (ftn B) (B 117) L P).2 ≤ 20000 then w32 (flw true (ftn B) (B 117) L P).1 else -3) else 0 := by
      unfold flA; rw [← hP, ← hL, ← hw2]
    unfold FX12_floors_b55 FX12_floors_b89 FX12_floors_b90
    simp only [Nat.reduceAdd]
    rw [wr_ok (by omega) (by omega), Option.bind_some, ← hz2]
    cases hLc : L with
    | nil =>
      obtain ⟨wa, wc⟩ := rE_W z2E hT.1 hT.2.1
      rw [if_pos (show ((([] : List Int).length : Nat) : Int) = 0 from rfl), FX12_mismatches_ok (by omega) wa wc, Option.bind_some, rE_mm z2E hT.1]
      dsimp only
      have ex : ∀ v : Int, FX12_floors_l93 N 113 (([] : List Int).length : Int) (if w = true then 1 else 0) x3 (fun (s_3823 : iv_M) (x3824_4 : Int) (x3824_5 : Int) => (FX12_floors_b354 N s_3823 113 x3824_4 x3824_5)) N (fsM z2 64) v 0 0 = FX12_floors_b354 N (fsM z2 64) 113 v 0 := fun v => by
        obtain ⟨f, hf⟩ : ∃ f, N = f + 1 := ⟨N - 1, by omega⟩
        conv => lhs; arg 7; rw [hf]
        rw [FX12_floors_l93, if_neg (by omega), if_pos (by show ((0 : Nat) : Int) ≤ 0; omega)]
      obtain ⟨s2, a1, a2⟩ := farz (fsM z2 64) (fFr_fsM z2F)
      refine ⟨s2, ?_, a2⟩
      rw [hLc] at hA
      have hA2 : flA B = w32 (if mm P = 0 then 1 else 0) := by
        rw [hA]
        by_cases g : w = true
        · rw [if_pos g, if_pos (show (flw true (ftn B) (B 117) [] P).2 ≤ 20000 by show (0 : Int) ≤ 20000; decide)]; rfl
        · rw [if_neg g]
          have := ffw_mm hT.1 hT.2.1 hfr (B 114 2).toNat 0 (by omega) (by omega) (by rw [← hw2]; exact g)
          rw [if_neg this]; rfl
      rw [hA2]
      by_cases g : mm P = 0
      · rw [if_pos g, if_pos g, ex, a1, if_pos (by decide)]; rfl
      · rw [if_neg g, if_neg g, ex, a1, if_pos (by decide)]; rfl
    | cons r rs =>
      rw [if_neg (by show ¬ ((rs.length + 1 : Nat) : Int) = 0; omega)]
      have hLr : ∀ x, x ∈ L → 0 ≤ x ∧ x < B 114 2 := fun x hx => by have := hT.2.2.1 x hx; rw [P4] at this; exact ⟨this.1, this.2.1⟩
      have out := fl_all (N := N) (w := w) (tn := ftn B) (x1 := (L.length : Int)) (x2 := if w = true then 1 else 0) (x3 := x3) (n := B 114 2) (k := B 117) (L := L) (z0 := z2) (kx := fun (s_3823 : iv_M) (x3824_4 : Int) (x3824_5 : Int) => (FX12_floors_b354 N s_3823 113 x3824_4 x3824_5)) (by omega) rfl h3 rfl Llen (fun j hj => by rw [z2o 157 (by decide)]; exact t4 j hj) (fun x hx => by
          obtain ⟨u0, u1⟩ := hLr x hx
          have := hW.room u0 u1
          refine ⟨?_, this.2.2.2.1, this.2.2.2.2.1⟩
          rw [z2o 159 (by decide), t2 159 (by decide) (by decide), hC]
          unfold cpT
          rw [if_pos ⟨rfl, u0, by omega⟩, Ko 117 (by decide), hE 117 (by decide) (by decide)]) rs r [] z2 P 0 0 (by rw [hLc]; rfl) (by rw [← hLc]; exact hT) (by rw [P4]) (by rw [hz2]; exact mu_eq) z2E z2F (by omega) (by omega)
      rw [← hLc]
      rw [← hLc] at out
      have e0 : w32 (0 + 0) = w32 0 := rfl
      rw [e0]
      rcases out with ⟨b1, K', z', b2, b3, b4, b5, b6⟩ | ⟨b1, K', z', b, x, b2, b3, b4, b5⟩
      · obtain ⟨f, hf⟩ : ∃ f, N = (f + 1) + K' := ⟨N - K' - 1, by omega⟩
        have st : FX12_floors_l93 N 113 (L.length : Int) (if w = true then 1 else 0) x3 (fun (s_3823 : iv_M) (x3824_4 : Int) (x3824_5 : Int) => (FX12_floors_b354 N s_3823 113 x3824_4 x3824_5)) N z2 (w32 0) 0 0 = FX12_floors_b354 N z' 113 (w32 (0 + (flw w (ftn B) (B 117) L P).1)) (0 + (flw w (ftn B) (B 117) L P).2) := by
          have := b3 (f + 1)
          rw [← hf] at this
          refine this.trans ?_
          rw [FX12_floors_l93, if_pos (by show ((0 : Nat) : Int) - 1 < 0; omega)]
        obtain ⟨s2, a1, a2⟩ := farz z' b5
        refine ⟨s2, ?_, a2⟩
        rw [st, a1, Int.zero_add, Int.zero_add, hA]
        rw [Int.zero_add] at b1
        cases hwc : w with
        | true => rw [hwc] at b1; rw [if_pos rfl, if_pos b1]
        | false =>
          have := flw_false (tn := ftn B) (k := B 117) (r := r) (rs := rs) (P := P)
          rw [← hLc] at this
          rw [if_pos (show (flw false (ftn B) (B 117) L P).2 ≤ 20000 by omega), if_neg (show ¬ (false = true) by decide), this.1]; rfl
      · obtain ⟨f, hf⟩ : ∃ f, N = f + K' := ⟨N - K', by omega⟩
        have st : FX12_floors_l93 N 113 (L.length : Int) (if w = true then 1 else 0) x3 (fun (s_3823 : iv_M) (x3824_4 : Int) (x3824_5 : Int) => (FX12_floors_b354 N s_3823 113 x3824_4 x3824_5)) N z2 (w32 0) 0 0 = FX12_floors_b354 N z' 113 b x := by
          have := b4 f
          rw [← hf] at this
          exact this
        obtain ⟨s2, a1, a2⟩ := farz z' b5
        refine ⟨s2, ?_, a2⟩
        rw [st, a1, if_neg (by omega), hA]
        rw [Int.zero_add] at b1
        cases hwc : w with
        | true => rw [hwc] at b1; rw [if_pos rfl, if_neg (by omega)]
        | false =>
          have := flw_false (tn := ftn B) (k := B 117) (r := r) (rs := rs) (P := P)
          rw [← hLc] at this
          rw [hwc] at b1
          omega
  have st : ∀ v : Int × iv_M, FX12_takesLoose N C 113 = some v → v = ((L.length : Int), z1) := fun v hv => by
    unfold FX12_takesLoose at hv
    have t1' : FX12_takesLoose_l4 N 113 (fun (s_3795 : iv_M) (x3796_1 : Int) => (some (x3796_1, s_3795))) N C 0 0 = some ((L.length : Int), z1) := t1
    rw [t1'] at hv
    injection hv with hv
    exact hv.symm
  have tk : FX12_takesLoose N C 113 = some ((L.length : Int), z1) := by unfold FX12_takesLoose; exact t1
  have go : ∀ x3, FX12_floors N s 113 = FX12_floors_b55 N z1 113 (L.length : Int) (if w = true then 1 else 0) x3 → ((x3 = 1 ∧ ftn B = false) ∨ (x3 = 4 ∧ ftn B = true)) → ∃ s2, FX12_floors N s 113 = some (flA B, s2) ∧ Eb B s2 ∧ (∀ a, a ≠ 113 → (a < 114 ∨ 131 < a) → a ≠ 154 → a ≠ 157 → a ≠ 158 → a ≠ 159 → s2 a = s a) ∧ ∀ i, i ≠ 26 → i ≠ 27 → s2 113 i = s 113 i := fun x3 he h3 => by rw [he]; exact lp x3 h3
  have top : FX12_floors N s 113 = if bAn (B 114 4) 4 ≤ 0 then FX12_floors_b55 N z1 113 (L.length : Int) (if w = true then 1 else 0) 1 else FX12_floors_b55 N z1 113 (L.length : Int) (if w = true then 1 else 0) 4 := by
    unfold FX12_floors
    simp only [Nat.reduceAdd]
    rw [told_ref, Option.bind_some, hE 114 (by decide) (by decide), if_pos hp, if_neg (by decide), FX12_fillsFloor_ok (m := 24) (by omega) (by omega) (by decide) (by omega) (by omega), Option.bind_some, ← hK, copies_ok (by omega), Option.bind_some, ← hC, tk, Option.bind_some]
    dsimp only
    rw [af, Option.bind_some, rd_ok (by omega) (by omega), Option.bind_some, z1B 114 (by decide) (by decide) (by decide)]
  rcases ftn_x3 (B := B) hw with ⟨u, v⟩ | ⟨u, v⟩
  · exact go 1 (by rw [top, if_pos u]) (Or.inl ⟨rfl, v⟩)
  · exact go 4 (by rw [top, if_neg u]) (Or.inr ⟨rfl, v⟩)
theorem ct_floors {t : Int} {N : Nat} {s : iv_M} (hN : 20000000 ≤ N) (h : Inv t s) (t0 : 0 ≤ t) : ∃ a s1 s2, FX11_floors N s 0 = some (a, s1) ∧ FX12_floors N s1 113 = some (a, s2) ∧ Inv (t + 1) s2 := by
  have hI := h
  obtain ⟨h1, h2, h3, h4, h5, h6, h7, h8, h9, h10⟩ := h
  obtain ⟨m1, m2, m3⟩ := now_ne h1
  have hn := (now_HQ h1).2.1
  have hq : (s 0 4).toNat = now s := rfl
  obtain ⟨hW, ⟨_, p4, _⟩, ⟨hx, _⟩⟩ := id h3
  have hto := HR1_told h2.1
  by_cases C : 0 < s 114 0
  rotate_left
  · refine ⟨-1, s, s, ?_, ?_, HR1_mono (by omega) hI⟩
    · unfold FX11_floors FX11_floors_b25
      rw [hq, if_pos (hto.mpr C)]
    · unfold FX12_floors
      rw [told_ref, Option.bind_some, if_neg C, if_pos rfl]
  have hH : fHs s (now s) s := ⟨hn, h2.1.2.1, fun r r0 r1 => (h2.2.1.1.cell hW r0 r1).2, hW.1.2.2.2.2.1, hW.1.2.2.2.2.2.1⟩
  obtain ⟨s1, c1, c2⟩ := layRooms_ok (N := N) (q1 := now s) (s := s) (B := s) (by omega) hW hH h2.2.1.1 h2.2.1.2
  have os1 : ∀ a, (a < 102 ∨ 109 < a) → s1 a = s a := fun a ha => by funext i; exact c2 a i ha
  have hb : Eb s s1 := fun a z0 z1 => os1 a (by omega)
  obtain ⟨s2, r1, r2, r3, r4⟩ := floorsRef_ok (N := N) (s := s1) (B := s) hN hW hx h10 hb C p4
  refine ⟨flA s, s1, s2, ?_, r1, ?_⟩
  · unfold FX11_floors FX11_floors_b25
    simp only [Nat.zero_add]
    rw [hq, if_neg (fun z => hto.mp z C), c1, Option.bind_some]
  · have e0 : s1 0 = s 0 := os1 0 (by omega)
    have far : ∀ a, a ≠ 113 → (a < 114 ∨ 131 < a) → a ≠ 154 → a ≠ 157 → a ≠ 158 → a ≠ 159 → s2 a = s1 a := r3
    have h15 := h9.1
    exact Inv_bk (s1 := s1) hI (by omega) (fun i _ => by rw [e0]) (by rw [e0]; omega) (fun a ha => os1 a (by omega)) (HR_ext (fun a z0 z1 => os1 a (by omega)) h2) (WH_mono (by omega) h3) h5.2.2.2.1 h10 (fun a ha => far a (by omega) (by omega) (by omega) (by omega) (by omega) (by omega)) (fun i hi => r4 i (by omega) (by omega)) r2 (Me_tr ⟨h7, h8⟩ (Er.of_eb r2) (by rw [far 0 (by omega) (by omega) (by omega) (by omega) (by omega) (by omega), e0]) ⟨by rw [far 81 (by omega) (by omega) (by omega) (by omega) (by omega) (by omega), os1 81 (by omega)], by rw [far 81 (by omega) (by omega) (by omega) (by omega) (by omega) (by omega), os1 81 (by omega)]⟩ (fun a ha => by rw [far a (by omega) (by omega) (by omega) (by omega) (by omega) (by omega), os1 a (by omega)]))
