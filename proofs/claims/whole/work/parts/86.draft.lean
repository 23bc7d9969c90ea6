-- DRAFTS
def hdr (B : iv_M) (k : Int) : Prop := 0 ≤ k ∧ k < 4 ∧ B 114 11 / 2 ^ k.toNat % 2 = 1
theorem FX2_hasDraft_ok {N q : Nat} {s B : iv_M} {k : Int} (h8 : s q 8 = B 114 11) : (hdr B k ∧ FX2_hasDraft N s q k = some 1) ∨ (¬ hdr B k ∧ FX2_hasDraft N s q k = some 0) := by
  unfold FX2_hasDraft FX2_hasDraft_b25 FX2_hasDraft_b26 hdr
  rw [h8, b01_0, b01_1]
  by_cases e1 : k < 0
  · right; rw [if_pos e1]; exact ⟨fun z => by omega, rfl⟩
  · rw [if_neg e1]
    by_cases e2 : 4 ≤ k
    · right; rw [if_pos e2]; exact ⟨fun z => by omega, rfl⟩
    · rw [if_neg e2, bit_ok (by omega) (by omega)]
      by_cases e3 : B 114 11 / 2 ^ k.toNat % 2 = 1
      · left; rw [if_pos e3]; exact ⟨⟨by omega, by omega, e3⟩, rfl⟩
      · right; rw [if_neg e3]; exact ⟨fun z => e3 z.2.2, rfl⟩
theorem FX12_isDraft_ok {N : Nat} {s : iv_M} {k : Int} : (hdr s k ∧ FX12_isDraft N s 113 k = some 1) ∨ (¬ hdr s k ∧ FX12_isDraft N s 113 k = some 0) := by
  unfold FX12_isDraft FX12_isDraft_b31 FX12_isDraft_b32 hdr
  rw [b01_0, b01_1, FX12_in_ok, Option.bind_some]
  simp only [Nat.reduceAdd]
  by_cases e1 : 0 ≤ k ∧ k ≤ 3
  · rw [if_pos e1, if_neg (by omega), rd_ok (by omega) (by omega), Option.bind_some, bit_ok (by omega) (by omega)]
    by_cases e3 : s 114 11 / 2 ^ k.toNat % 2 = 1
    · left; rw [if_pos e3]; exact ⟨⟨by omega, by omega, e3⟩, rfl⟩
    · right; rw [if_neg e3]; exact ⟨fun z => e3 z.2.2, rfl⟩
  · right; rw [if_neg e1, if_pos rfl]; exact ⟨fun z => by omega, rfl⟩
theorem hdr_eb {B B' : iv_M} {k : Int} (h : Eb B B') : hdr B' k ↔ hdr B k := by unfold hdr; rw [h 114 (by omega) (by omega)]
theorem or16_all : ∀ (x : Fin 16) (r i : Fin 4), (0 ≤ bOr x.val (sl32 1 r.val) ∧ bOr x.val (sl32 1 r.val) < 16) ∧ bOr x.val (sl32 1 r.val) / 2 ^ i.val % 2 = (if i = r then 1 else (x.val : Int) / 2 ^ i.val % 2) ∧ ((x.val : Int) / 2 ^ r.val % 2 = 1 → bOr x.val (sl32 1 r.val) = x.val) := by decide +kernel
theorem or16 {x r i : Int} (x0 : 0 ≤ x) (x1 : x < 16) (r0 : 0 ≤ r) (r1 : r < 4) (i0 : 0 ≤ i) (i1 : i < 4) : (0 ≤ bOr x (sl32 1 r) ∧ bOr x (sl32 1 r) < 16) ∧ bOr x (sl32 1 r) / 2 ^ i.toNat % 2 = (if i = r then 1 else x / 2 ^ i.toNat % 2) ∧ (x / 2 ^ r.toNat % 2 = 1 → bOr x (sl32 1 r) = x) := by
  obtain ⟨x, rfl⟩ := Int.eq_ofNat_of_zero_le x0
  obtain ⟨r, rfl⟩ := Int.eq_ofNat_of_zero_le r0
  obtain ⟨i, rfl⟩ := Int.eq_ofNat_of_zero_le i0
  have h := or16_all ⟨x, by omega⟩ ⟨r, by omega⟩ ⟨i, by omega⟩
  rw [Int.toNat_natCast, Int.toNat_natCast]
  obtain ⟨h1, h2, h3⟩ := h
  refine ⟨h1, ?_, h3⟩
  have h2' : bOr (x : Int) (sl32 1 (r : Int)) / 2 ^ i % 2 = (if (⟨i, by omega⟩ : Fin 4) = ⟨r, by omega⟩ then 1 else (x : Int) / 2 ^ i % 2) := h2
  rw [h2']
  by_cases e : i = r
  · subst e; rw [if_pos rfl, if_pos rfl]
  · rw [if_neg (fun z => e (by simpa using z)), if_neg (by omega)]
theorem ct_drafted {t : Int} {N : Nat} {s : iv_M} {x y z : Int} (h : Inv t s) : ∃ a, FX11_drafted N s 0 x y z = some a ∧ FX12_drafted N s 113 x y z = some a := by
  obtain ⟨h1, ⟨hr1, ⟨hF, hP⟩, _, _, h5, _⟩, ⟨hW, _, ⟨_, _, _, _, e5, _⟩⟩, _⟩ := h
  have hq : (s 0 4).toNat = now s := rfl
  have hr2 := hW.1.2.2.2.2.2.1
  have h8 := hr1.2.2.2.2.2.2.2
  by_cases C : hdr s x ∧ (0 ≤ y ∧ y < s 114 2) ∧ (0 ≤ z ∧ z ≤ 1)
  · obtain ⟨c, r, w⟩ := C
    obtain ⟨c0, c1, c2⟩ := id c
    obtain ⟨v1, v2⟩ := e5 x c0 c1 c2
    obtain ⟨p1, p2⟩ := h5 x c0 c1 c2
    have hd : ∀ i : Int, 0 ≤ i → i < ((s 114 2).toNat : Int) → 0 ≤ dC s x i ∧ dC s x i < 2 ^ 4 := fun i i0 i1 => by
      have := v1 i i0 (by omega); exact ⟨this.1, by simpa using this.2.1⟩
    have ht : ∀ i : Int, 0 ≤ i → i < ((s 114 2).toNat : Int) → 0 ≤ dT s x i ∧ dT s x i < 2 ^ 2 := fun i i0 i1 => by
      have := v1 i i0 (by omega); exact ⟨this.2.2.2.2.1, by simpa using this.2.2.2.2.2⟩
    refine ⟨s 123 (24 * x + 2 * y + z), ?_, ?_⟩
    · unfold FX11_drafted FX11_drafted_b58
      rcases FX2_hasDraft_ok (N := N) (k := x) h8 with ⟨_, e⟩ | ⟨d, _⟩
      rotate_left
      · exact absurd c d
      rw [hq, e, Option.bind_some, if_neg (by omega), FX2_isRoom_ok hF, Option.bind_some, if_pos r, if_neg (by omega), if_neg (by omega), if_pos w.2]
      by_cases z2 : z = 0
      · rw [if_pos z2]
        unfold FX2_draftCell
        rw [rd_ok c0 (by omega), Option.bind_some, Option.bind_some, p1, w32_id (x := 4 * y) (by omega) (by omega), pk4_get (by omega) hd r.1 (by omega), z2, show 24 * x + 2 * y + 0 = 24 * x + 2 * y by omega]
        rfl
      · rw [if_neg z2]
        unfold FX2_draftTurn
        rw [rd_ok c0 (by omega), Option.bind_some, Option.bind_some, p2, w32_id (x := 2 * y) (by omega) (by omega), pk2_get (by omega) ht r.1 (by omega), show z = 1 by omega]
        rfl
    · unfold FX12_drafted FX12_drafted_b45
      simp only [Nat.reduceAdd]
      rcases FX12_isDraft_ok (N := N) (s := s) (k := x) with ⟨_, f⟩ | ⟨d, _⟩
      rotate_left
      · exact absurd c d
      rw [f, Option.bind_some, if_neg (by omega), FX12_isRoom_ok hW.1, Option.bind_some, if_pos r, if_neg (by omega), FX12_in_ok, Option.bind_some, if_pos w, if_neg (by omega), w32_id (x := 24 * x) (by omega) (by omega), w32_id (x := 2 * y) (by omega) (by omega), w32_id (x := 24 * x + 2 * y) (by omega) (by omega), w32_id (by omega) (by omega), rd_ok (by omega) (by omega), Option.bind_some]
  · refine ⟨-1, ?_, ?_⟩
    · unfold FX11_drafted FX11_drafted_b31
      rw [hq]
      rcases FX2_hasDraft_ok (N := N) (k := x) h8 with ⟨c, e⟩ | ⟨c, e⟩
      · rw [e, Option.bind_some, if_neg (by omega), FX2_isRoom_ok hF, Option.bind_some]
        by_cases r : 0 ≤ y ∧ y < s 114 2
        · rw [if_pos r, if_neg (by omega)]
          by_cases z0 : z < 0
          · rw [if_pos z0]
          rw [if_neg z0, if_neg (fun z1 => C ⟨c, r, by omega, z1⟩)]
        · rw [if_neg r, if_pos rfl]
      · rw [e, Option.bind_some, if_pos rfl]
    · unfold FX12_drafted FX12_drafted_b44 FX12_drafted_b45
      rcases FX12_isDraft_ok (N := N) (s := s) (k := x) with ⟨c, f⟩ | ⟨c, f⟩
      · rw [f, Option.bind_some, if_neg (by omega), FX12_isRoom_ok hW.1, Option.bind_some]
        by_cases r : 0 ≤ y ∧ y < s 114 2
        · rw [if_pos r, if_neg (by omega), FX12_in_ok, Option.bind_some, if_neg (show ¬ (0 ≤ z ∧ z ≤ 1) from fun w => C ⟨c, r, w⟩), if_pos rfl]
        · rw [if_neg r, if_pos rfl]
      · rw [f, Option.bind_some, if_pos rfl]
theorem HR_dr {s s' B B' : iv_M} {q : Nat} (h : HR s q B) (rows : ∀ a, q + 1 ≤ a → a ≤ q + 21 → a ≠ q + 14 → a ≠ q + 15 → s' a = s a) (rq : ∀ i, i ≠ 8 → s' q i = s q i) (h8 : s' q 8 = B' 114 11) (b : ∀ j, j ≠ 11 → B' 114 j = B 114 j) (b' : ∀ a, 115 ≤ a → a ≤ 131 → a ≠ 123 → B' a = B a) (h5 : HR5 s' q B') : HR s' q B' := by
  obtain ⟨h1, ⟨h2, h2'⟩, h3, h4, _, h6⟩ := h
  have ew : Ew B B' := ⟨b 0 (by omega), b 1 (by omega), b 2 (by omega), b' 115 (by omega) (by omega) (by omega), b' 116 (by omega) (by omega) (by omega), b' 117 (by omega) (by omega) (by omega), b' 121 (by omega) (by omega) (by omega)⟩
  have pc : pC B' = pC B := by funext j r; unfold pC; rw [b' 122 (by omega) (by omega) (by omega)]
  have pt : pT B' = pT B := by funext j r; unfold pT; rw [b' 122 (by omega) (by omega) (by omega)]
  refine ⟨?_, ⟨ew_FRc ew (FRc_ext (fun a z0 z1 => rows a (by omega) (by omega) (by omega) (by omega)) h2), ew_FP ew (FP_ext (rows _ (by omega) (by omega) (by omega) (by omega)) h2')⟩, ?_, ?_, h5, ?_⟩
  · unfold HR1 HB at h1 ⊢
    rw [rq 0 (by omega), rq 1 (by omega), rq 2 (by omega), rq 3 (by omega), rq 4 (by omega), rq 5 (by omega), rq 6 (by omega), rq 7 (by omega), h8, rows (q + 9) (by omega) (by omega) (by omega) (by omega), b 0 (by omega), b 2 (by omega), b 3 (by omega), b 4 (by omega), b 5 (by omega), b 6 (by omega), b 12 (by omega), b 13 (by omega), b' 118 (by omega) (by omega) (by omega), b' 120 (by omega) (by omega) (by omega)]
    obtain ⟨z1, z2, z3, z4, z5, z6, z7, z8⟩ := h1
    exact ⟨z1, z2, z3, z4, z5, z6, z7, rfl⟩
  · unfold HR3 at h3 ⊢; rw [rows (q + 8) (by omega) (by omega) (by omega) (by omega), b' 119 (by omega) (by omega) (by omega)]; exact h3
  · unfold HR4 at h4 ⊢; rw [pc, pt, rows (q + 10) (by omega) (by omega) (by omega) (by omega), rows (q + 11) (by omega) (by omega) (by omega) (by omega), rows (q + 12) (by omega) (by omega) (by omega) (by omega), rows (q + 13) (by omega) (by omega) (by omega) (by omega), b 7 (by omega), b 2 (by omega)]; exact h4
  · unfold HR6 at h6 ⊢; rw [rows (q + 16) (by omega) (by omega) (by omega) (by omega), rows (q + 17) (by omega) (by omega) (by omega) (by omega), rows (q + 18) (by omega) (by omega) (by omega) (by omega), rows (q + 19) (by omega) (by omega) (by omega) (by omega), rows (q + 20) (by omega) (by omega) (by omega) (by omega), rows (q + 21) (by omega) (by omega) (by omega) (by omega), b 8 (by omega), b 9 (by omega), b 10 (by omega), b' 124 (by omega) (by omega) (by omega), b' 125 (by omega) (by omega) (by omega), b' 126 (by omega) (by omega) (by omega), b' 127 (by omega) (by omega) (by omega), b' 128 (by omega) (by omega) (by omega), b' 129 (by omega) (by omega) (by omega), b' 130 (by omega) (by omega) (by omega), b' 131 (by omega) (by omega) (by omega)]; exact h6
theorem WHm_dr {m : Int} {B B' : iv_M} (h : WHm m B) (b : ∀ j, j ≠ 11 → B' 114 j = B 114 j) (b' : ∀ a, 115 ≤ a → a ≤ 131 → a ≠ 123 → B' a = B a) (h11 : 0 ≤ B' 114 11 ∧ B' 114 11 < 16) (hv : ∀ k, 0 ≤ k → k < 4 → B' 114 11 / 2 ^ k.toNat % 2 = 1 → FV B (dC B' k) (dT B' k)) : WHm m B' := by
  obtain ⟨hW, ⟨a1, a2, a3, a4, a5, a6, a7, a8, a9, a10, a11, a12⟩, ⟨e1, e2, e3, e4, e5, e6, e7, e8⟩⟩ := h
  have ew : Ew B B' := ⟨b 0 (by omega), b 1 (by omega), b 2 (by omega), b' 115 (by omega) (by omega) (by omega), b' 116 (by omega) (by omega) (by omega), b' 117 (by omega) (by omega) (by omega), b' 121 (by omega) (by omega) (by omega)⟩
  have pc : pC B' = pC B := by funext j r; unfold pC; rw [b' 122 (by omega) (by omega) (by omega)]
  have pt : pT B' = pT B := by funext j r; unfold pT; rw [b' 122 (by omega) (by omega) (by omega)]
  have fv : FV B' = FV B := by funext f g; unfold FV; rw [b 0 (by omega), b 1 (by omega), b 2 (by omega)]
  have iw : isW B' = isW B := by funext k r o; unfold isW; rw [b 2 (by omega)]
  refine ⟨ew_Wf ew hW, ⟨by rw [b 3 (by omega)]; exact a1, by rw [b 4 (by omega)]; exact a2, by rw [b 5 (by omega)]; exact a3, by rw [b 6 (by omega)]; exact a4, by rw [b 7 (by omega)]; exact a5, by rw [b 8 (by omega)]; exact a6, by rw [b 9 (by omega)]; exact a7, by rw [b 10 (by omega)]; exact a8, h11, by rw [b 12 (by omega)]; exact a10, by rw [b 13 (by omega)]; exact a11, by rw [b 0 (by omega), b 2 (by omega)]; exact a12⟩, ⟨by rw [b 2 (by omega), b' 118 (by omega) (by omega) (by omega)]; exact e1, by rw [b' 119 (by omega) (by omega) (by omega)]; exact e2, by rw [b 3 (by omega), b 2 (by omega), b' 120 (by omega) (by omega) (by omega)]; exact e3, by rw [b 7 (by omega), fv, pc, pt]; exact e4, by rw [fv]; exact hv, by rw [iw, b 8 (by omega), b' 124 (by omega) (by omega) (by omega), b' 125 (by omega) (by omega) (by omega), b' 126 (by omega) (by omega) (by omega)]; exact e6, by rw [b 9 (by omega), b 3 (by omega), b' 127 (by omega) (by omega) (by omega), b' 128 (by omega) (by omega) (by omega), b' 129 (by omega) (by omega) (by omega)]; exact e7, by rw [b 10 (by omega), b 2 (by omega), b' 130 (by omega) (by omega) (by omega), b' 131 (by omega) (by omega) (by omega)]; exact e8⟩⟩
/-- a draft is kept: class, reference, and what holds then. D: the floor that is drafted -/
def drB (B : iv_M) (x : Int) (D123 : Int → Int) : iv_M := fun a i => if a = 123 then D123 i else if a = 114 ∧ i = 11 then bOr (B 114 11) (sl32 1 x) else B a i
theorem keepDraft_ok {N q p : Nat} {s B D : iv_M} {x : Int} {R : Int → Int} (hq : 9 ≤ q) (hp : p ≠ q ∧ p ≠ q + 14 ∧ p ≠ q + 15) (x0 : 0 ≤ x) (x1 : x < 4) (hH : HR s q B) (h11 : 0 ≤ B 114 11 ∧ B 114 11 < 16) (hP : FP s p D) (h2 : D 114 2 = B 114 2) (h12 : B 114 2 ≤ 12) (hR : ∀ r, 0 ≤ r → r < 12 → r < B 114 2 → R (24 * x + 2 * r) = D 116 r ∧ R (24 * x + 2 * r + 1) = D 117 r) (hR2 : ∀ i, ¬ (24 * x ≤ i ∧ i < 24 * x + 24) → R i = B 123 i) : ∃ s', FX2_keepDraft N s q x p = some s' ∧ HR s' q (drB B x R) ∧ ∀ a, a ≠ q → a ≠ q + 14 → a ≠ q + 15 → s' a = s a := by
  have h8 := hH.1.2.2.2.2.2.2.2
  obtain ⟨s', hs'⟩ : ∃ s', s' = mu (mu (mu s q 8 (bOr (B 114 11) (sl32 1 x))) (q + 14) x (s p 3)) (q + 15) x (s p 4) := ⟨_, rfl⟩
  have b4 : ∀ j, j ≠ 11 → drB B x R 114 j = B 114 j := fun j hj => by unfold drB; rw [if_neg (by omega), if_neg (by omega)]
  have b11 : drB B x R 114 11 = bOr (B 114 11) (sl32 1 x) := by unfold drB; rw [if_neg (by omega), if_pos (by omega)]
  have b23 : ∀ i, drB B x R 123 i = R i := fun i => by unfold drB; rw [if_pos rfl]
  have bo : ∀ a, a ≠ 114 → a ≠ 123 → drB B x R a = B a := fun a z0 z1 => by funext i; unfold drB; rw [if_neg z1, if_neg (by omega)]
  refine ⟨s', ?_, ?_, fun a z0 z1 z2 => by rw [hs', mu_rw z2, mu_rw z1, mu_rw z0]⟩
  · unfold FX2_keepDraft
    rw [pt_ok, Option.bind_some, wr_ok x0 x1, Option.bind_some, wr_ok x0 x1, Option.bind_some, h8, hs', mu_ne (by omega), mu_ne (by omega), mu_ne (by omega)]
  · refine HR_dr hH (fun a z0 z1 z2 z3 => by rw [hs', mu_rw z3, mu_rw z2, mu_rw (by omega)]) (fun i hi => by rw [hs', mu_ne (by omega), mu_ne (by omega), mu_ne (by omega)]) (by rw [hs', b11, mu_ne (by omega), mu_ne (by omega), mu_eq]) b4 (fun a z0 z1 z2 => bo a (by omega) z2) ?_
    intro k k0 k1 hk
    rw [b11] at hk
    obtain ⟨_, o2, _⟩ := or16 (x := B 114 11) (r := x) (i := k) h11.1 h11.2 x0 x1 k0 k1
    rw [o2] at hk
    rw [b4 2 (by omega)]
    by_cases e : k = x
    · subst e
      have g1 := pkd_congr (w := 4) (f := dC (drB B k R) k) (g := D 116) (B 114 2).toNat (fun i i0 i1 => by unfold dC; rw [b23]; exact (hR i i0 (by omega) (by omega)).1)
      have g2 := pkd_congr (w := 2) (f := dT (drB B k R) k) (g := D 117) (B 114 2).toNat (fun i i0 i1 => by unfold dT; rw [b23]; exact (hR i i0 (by omega) (by omega)).2)
      rw [g1, g2, ← h2, ← hP.1, ← hP.2, hs']
      refine ⟨by rw [mu_ne (by omega), mu_eq], by rw [mu_eq]⟩
    · rw [if_neg e] at hk
      have g1 := pkd_congr (w := 4) (f := dC (drB B x R) k) (g := dC B k) (B 114 2).toNat (fun i i0 i1 => by unfold dC; rw [b23, hR2 _ (by omega)])
      have g2 := pkd_congr (w := 2) (f := dT (drB B x R) k) (g := dT B k) (B 114 2).toNat (fun i i0 i1 => by unfold dT; rw [b23, hR2 _ (by omega)])
      rw [g1, g2, hs']
      obtain ⟨p1, p2⟩ := hH.2.2.2.2.1 k k0 k1 hk
      refine ⟨by rw [mu_ne (by omega), mu_ne (by omega), mu_ne (by omega)]; exact p1, by rw [mu_ne (by omega), mu_ne (by omega), mu_ne (by omega)]; exact p2⟩
theorem WHm_drB {m x : Int} {B D : iv_M} {R : Int → Int} (h : WHm m B) (x0 : 0 ≤ x) (x1 : x < 4) (hD : FV B (D 116) (D 117)) (hR : ∀ r, 0 ≤ r → r < 12 → r < B 114 2 → R (24 * x + 2 * r) = D 116 r ∧ R (24 * x + 2 * r + 1) = D 117 r) (hR2 : ∀ i, ¬ (24 * x ≤ i ∧ i < 24 * x + 24) → R i = B 123 i) : WHm m (drB B x R) := by
  have h12 := h.1.1.2.2.2.2.2.1
  have h11 := h.2.1.2.2.2.2.2.2.2.2.1
  have b4 : ∀ j, j ≠ 11 → drB B x R 114 j = B 114 j := fun j hj => by unfold drB; rw [if_neg (by omega), if_neg (by omega)]
  have b11 : drB B x R 114 11 = bOr (B 114 11) (sl32 1 x) := by unfold drB; rw [if_neg (by omega), if_pos (by omega)]
  have b23 : ∀ i, drB B x R 123 i = R i := fun i => by unfold drB; rw [if_pos rfl]
  have bo : ∀ a, a ≠ 114 → a ≠ 123 → drB B x R a = B a := fun a z0 z1 => by funext i; unfold drB; rw [if_neg z1, if_neg (by omega)]
  refine WHm_dr h b4 (fun a z0 z1 z2 => bo a (by omega) z2) (by rw [b11]; exact (or16 (i := 0) h11.1 h11.2 x0 x1 (by omega) (by omega)).1) (fun k k0 k1 hk => ?_)
  rw [b11] at hk
  obtain ⟨_, o2, _⟩ := or16 (x := B 114 11) (r := x) (i := k) h11.1 h11.2 x0 x1 k0 k1
  rw [o2] at hk
  by_cases e : k = x
  · subst e
    exact FV_congr rfl rfl rfl (fun r r0 r1 => by unfold dC dT; rw [b23, b23]; exact hR r r0 (by omega) r1) hD
  · rw [if_neg e] at hk
    exact FV_congr rfl rfl rfl (fun r r0 r1 => by unfold dC dT; rw [b23, b23, hR2 _ (by omega), hR2 _ (by omega)]; exact ⟨rfl, rfl⟩) (h.2.2.2.2.2.2.1 k k0 k1 hk)
theorem OZ_drB {x : Int} {B : iv_M} {R : Int → Int} (hO : OZ B) (x0 : 0 ≤ x) (x1 : x < 4) (hR2 : ∀ i, ¬ (24 * x ≤ i ∧ i < 24 * x + 24) → R i = B 123 i) : OZ (drB B x R) := by
  intro a a0 a1 i hi
  unfold drB
  by_cases e : a = 123
  · subst e
    have : ln 123 = 96 := by decide
    rw [this] at hi
    rw [if_pos rfl, hR2 i (by omega)]
    exact hO 123 (by omega) (by omega) i (by rw [this]; exact hi)
  · rw [if_neg e]
    by_cases e2 : a = 114 ∧ i = 11
    · obtain ⟨rfl, rfl⟩ := e2
      exact absurd (by decide) hi
    · rw [if_neg e2]; exact hO a a0 a1 i hi
theorem ct_draft {t : Int} {N : Nat} {s : iv_M} {x : Int} (hN : 1000 ≤ N) (h : Inv t s) (t0 : 0 ≤ t) (t1 : t ≤ 1000) : ∃ a s1 s2, FX11_draft N s 0 x = some (a, s1) ∧ FX12_draft N s1 113 x = some (a, s2) ∧ Inv (t + 1) s2 := by
  have hI := h
  obtain ⟨h1, h2, h3, h4, h5, h6, h7, h8, h9, h10⟩ := h
  obtain ⟨n1, n2, n3⟩ := now_ne h1
  have hq : (s 0 4).toNat = now s := rfl
  have hto := HR1_told h2.1
  have h15 := h9.1
  have hW := h3.1
  have h12 := hW.1.2.2.2.2.2.1
  have h11 := h3.2.1.2.2.2.2.2.2.2.2.1
  by_cases C : 0 < s 114 0 ∧ 0 ≤ x ∧ x ≤ 3
  rotate_left
  · refine ⟨-1, s, s, ?_, ?_, HR1_mono (by omega) hI⟩
    · unfold FX11_draft FX11_draft_b19
      rw [hq]
      by_cases e0 : s (now s) 0 = 0
      · rw [if_pos e0]
      rw [if_neg e0]
      by_cases e1 : x < 0
      · rw [if_pos e1]
      rw [if_neg e1, if_neg (fun z => C ⟨(by
        by_cases z : 0 < s 114 0
        · exact z
        · exact absurd (hto.mpr z) e0), by omega, by omega⟩)]
    · unfold FX12_draft FX12_draft_b19
      rw [told_ref, Option.bind_some]
      by_cases e0 : 0 < s 114 0
      · rw [if_pos e0, if_neg (by omega), FX12_in_ok, Option.bind_some, if_neg (show ¬ (0 ≤ x ∧ x ≤ 3) from fun z => C ⟨e0, z⟩), if_pos rfl]
      · rw [if_neg e0, if_pos rfl]
  obtain ⟨hp, c0, c1⟩ := C
  have e0 : ¬ s (now s) 0 = 0 := fun z => hto.mp z hp
  obtain ⟨R, hRd⟩ : ∃ R, R = flF s 123 (24 * x) 12 123 := ⟨_, rfl⟩
  have hR : ∀ r, 0 ≤ r → r < 12 → r < s 114 2 → R (24 * x + 2 * r) = s 116 r ∧ R (24 * x + 2 * r + 1) = s 117 r := fun r r0 r1 _ => by rw [hRd]; exact flF_c r0 r1
  have hR2 : ∀ i, ¬ (24 * x ≤ i ∧ i < 24 * x + 24) → R i = s 123 i := fun i hi => by rw [hRd]; unfold flF; rw [if_neg (by omega)]
  obtain ⟨s1, k1, k2, k3⟩ := keepDraft_ok (N := N) (q := now s) (p := now s + 1) (s := s) (B := s) (D := s) (x := x) (R := R) n2 (by omega) c0 (by omega) h2 h11 h2.2.1.2 rfl h12 hR hR2
  obtain ⟨s2, hs2⟩ : ∃ s2, s2 = mu s1 0 15 (s 0 15 + 1) := ⟨_, rfl⟩
  have o2 : ∀ a, a ≠ 0 → s2 a = s1 a := fun a ha => by rw [hs2, mu_rw ha]
  have x0 : s1 0 = s 0 := k3 0 (by omega) (by omega) (by omega)
  have hb : Eb s s2 := fun a z0 z1 => by rw [o2 a (by omega), k3 a (by omega) (by omega) (by omega)]
  have e114 := hb 114 (by omega) (by omega)
  have hq2 : (s2 0 4).toNat = now s := by rw [hs2, mu_ne (by omega), x0]; rfl
  have hF2 : FRc s2 (now s + 1) s := FRc_ext (fun a z0 z1 => by rw [o2 a (by omega), k3 a (by omega) (by omega) (by omega)]) h2.2.1.1
  have hE : Eb (drB s x R) (mu (flF s2 123 (24 * x) 12) 114 11 (bOr (s 114 11) (sl32 1 x))) := fun a z0 z1 => by
    funext i
    unfold drB
    by_cases e : a = 123
    · subst e
      rw [if_pos rfl, mu_ne (by omega), hRd]
      unfold flF
      rw [hb 116 (by omega) (by omega), hb 117 (by omega) (by omega), hb 123 (by omega) (by omega)]
    · rw [if_neg e]
      by_cases e2 : a = 114 ∧ i = 11
      · rw [if_pos e2, e2.1, e2.2, mu_eq]
      · rw [if_neg e2, mu_ne (by omega), flF_o e, hb a z0 z1]
  obtain ⟨M, hM⟩ : ∃ M, M = mu (flF s2 123 (24 * x) 12) 114 11 (bOr (s 114 11) (sl32 1 x)) := ⟨_, rfl⟩
  rw [← hM] at hE
  have ewM : Ew s M := by
    have d4 : ∀ j, j ≠ 11 → drB s x R 114 j = s 114 j := fun j hj => by unfold drB; rw [if_neg (by omega), if_neg (by omega)]
    have d : ∀ a, a ≠ 114 → a ≠ 123 → drB s x R a = s a := fun a z0 z1 => by funext i; unfold drB; rw [if_neg z1, if_neg (by omega)]
    have m4 := hE 114 (by omega) (by omega)
    exact ⟨by rw [m4, d4 0 (by omega)], by rw [m4, d4 1 (by omega)], by rw [m4, d4 2 (by omega)], by rw [hE 115 (by omega) (by omega), d 115 (by omega) (by omega)], by rw [hE 116 (by omega) (by omega), d 116 (by omega) (by omega)], by rw [hE 117 (by omega) (by omega), d 117 (by omega) (by omega)], by rw [hE 121 (by omega) (by omega), d 121 (by omega) (by omega)]⟩
  have hWM : Wf M := ew_Wf ewM hW
  have scr := scr_fsM (s := M) (j := 64)
  have Mo : ∀ a, a ≠ 114 → a ≠ 123 → M a = s2 a := fun a z0 z1 => by rw [hM, mu_rw z0, flF_o z1]
  refine ⟨mm s, s2, fsM M 64, ?_, ?_, ?_⟩
  · unfold FX11_draft
    rw [hq, if_neg e0, if_neg (by omega), if_pos (by omega), k1, Option.bind_some, pt_ok, Option.bind_some, x0, w32_id (by omega) (by omega), ← hs2, hq2, FX1_mismatches_ok hF2 hW.1 hW.2.1 (by omega), Option.bind_some]
  · unfold FX12_draft
    simp only [Nat.reduceAdd]
    rw [told_ref, Option.bind_some, e114, if_pos hp, if_neg (by omega), FX12_in_ok, Option.bind_some, if_pos (show 0 ≤ x ∧ x ≤ 3 from ⟨c0, c1⟩), if_neg (by omega), w32_id (by omega) (by omega), FX12_fillsFloor_ok (m := 96) (by omega) (by omega) (by decide) (by omega) (by omega), Option.bind_some, rd_ok (by omega) (by omega), Option.bind_some, flF_o (by omega), e114, wr_ok (by omega) (by omega), Option.bind_some, ← hM, FX12_mismatches_ok (by omega) hWM.1 hWM.2.1, Option.bind_some, ew_mm ewM]
  · have hE2 : Eb (drB s x R) (fsM M 64) := Eb.trans hE (Scr.eb scr)
    have far : ∀ a, a ≠ 114 → a ≠ 123 → a ≠ 113 → a ≠ 146 → a ≠ 147 → fsM M 64 a = s2 a := fun a z0 z1 z2 z3 z4 => by rw [scr.1 a z2 z3 z4, Mo a z0 z1]
    have hH2 : HR s2 (now s) (drB s x R) := HR_ext (fun a z0 z1 => o2 a (by omega)) k2
    refine Inv_bk (s1 := s2) hI (by omega) (fun i hi => by rw [hs2, mu_ne (by omega), x0]) (by rw [hs2, mu_eq]; omega) (fun a ha => by rw [o2 a (by omega), k3 a (by omega) (by omega) (by omega)]) hH2 (WHm_mono (by omega) (WHm_drB (WH_m.mp h3) c0 (by omega) (Wf_FV hW) hR hR2)) (by unfold drB; rw [if_neg (by omega), if_neg (by omega)]; exact h5.2.2.2.1) (OZ_drB h10 c0 (by omega) hR2) (fun a ha => far a (by omega) (by omega) (by omega) (by omega) (by omega)) (fun i hi => by rw [scr.2 i (by omega) (by omega) (by omega), Mo 113 (by omega) (by omega)]) hE2 (Me_bump ⟨h7, h8⟩ (by rw [far 64 (by omega) (by omega) (by omega) (by omega) (by omega), o2 64 (by omega), k3 64 (by omega) (by omega) (by omega)]) (by rw [far 81 (by omega) (by omega) (by omega) (by omega) (by omega), o2 81 (by omega), k3 81 (by omega) (by omega) (by omega)]) (by rw [far 0 (by omega) (by omega) (by omega) (by omega) (by omega), hs2, mu_eq]; omega))
