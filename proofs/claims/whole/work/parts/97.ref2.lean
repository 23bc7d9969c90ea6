-- THE FEWEST NIGHTS: the reference lays situations, and they come
theorem sit_l {N : Nat} {F G : Int → Int} {kx : iv_M → Option iv_M} : ∀ (j f : Nat) (z : iv_M), j ≤ 12 → j < f → (∀ r : Int, 0 ≤ r → r < j → (0 ≤ F r ∧ F r < 16) ∧ 0 ≤ G r ∧ G r < 4) → (∀ r r' : Int, 0 ≤ r → r < j → 0 ≤ r' → r' < j → F r = F r' → r = r') → ∃ z', FX12_laysSituation_l49 N 113 kx f z (rkd 16 F j) (rkd 4 G j) ((j : Int) - 1) = kx z' ∧ (∀ r : Int, 0 ≤ r → r < j → z' 116 r = F r ∧ z' 117 r = G r ∧ z' 121 (F r) = r) ∧ (∀ r : Int, ¬ (0 ≤ r ∧ r < j) → z' 116 r = z 116 r ∧ z' 117 r = z 117 r) ∧ (∀ c : Int, (∀ r : Int, 0 ≤ r → r < j → F r ≠ c) → z' 121 c = z 121 c) ∧ ∀ a, a ≠ 116 → a ≠ 117 → a ≠ 121 → z' a = z a := by
  intro j
  induction j with
  | zero =>
    intro f z _ hf _ _
    obtain ⟨f', rfl⟩ : ∃ f', f = f' + 1 := ⟨f - 1, by omega⟩
    refine ⟨z, ?_, fun r r0 r1 => by omega, fun _ _ => ⟨rfl, rfl⟩, fun _ _ => rfl, fun _ _ _ _ => rfl⟩
    rw [FX12_laysSituation_l49, if_pos (by omega)]
  | succ j ih =>
    intro f z hj hf hd hin
    obtain ⟨f', rfl⟩ : ∃ f', f = f' + 1 := ⟨f - 1, by omega⟩
    obtain ⟨⟨d1, d2⟩, d3, d4⟩ := hd j (by omega) (by omega)
    obtain ⟨y, hy⟩ : ∃ y, y = mu (mu (mu z 116 (j : Int) (F j)) 117 (j : Int) (G j)) 121 (F j) (j : Int) := ⟨_, rfl⟩
    have r16 := rkd_rng (w := 4) (f := F) j (fun i i0 i1 => by have := hd i i0 (by omega); exact ⟨this.1.1, by simpa using this.1.2⟩)
    have r4 := rkd_rng (w := 2) (f := G) j (fun i i0 i1 => by have := hd i i0 (by omega); exact ⟨this.2.1, by simpa using this.2.2⟩)
    have p16 : (2 : Int) ^ 4 = 16 := by decide
    have p4 : (2 : Int) ^ 2 = 4 := by decide
    rw [p16] at r16
    rw [p4] at r4
    have b16 := pow_le12 (w := 4) (n := j) (by omega) (by omega)
    have h24 : (2 : Nat) ^ (2 * j) ≤ 2 ^ 22 := Nat.pow_le_pow_right (by decide) (by omega)
    have h25 : ((2 ^ (2 * j) : Nat) : Int) ≤ ((2 ^ 22 : Nat) : Int) := by omega
    have h26 : ((2 ^ (2 * j) : Nat) : Int) = (2 : Int) ^ (2 * j) := by simp
    obtain ⟨z', g1, g2, g3, g4, g5⟩ := ih f' y (by omega) (by omega) (fun r r0 r1 => hd r r0 (by omega)) (fun r r' r0 r1 r0' r1' => hin r r' r0 (by omega) r0' (by omega))
    have oy : ∀ a, a ≠ 116 → a ≠ 117 → a ≠ 121 → y a = z a := fun a h1 h2 h3 => by rw [hy, mu_rw h3, mu_rw h2, mu_rw h1]
    have nF : ∀ r : Int, 0 ≤ r → r < j → F r ≠ F j := fun r r0 r1 e => by have := hin r j r0 (by omega) (by omega) (by omega) e; omega
    refine ⟨z', ?_, fun r r0 r1 => ?_, fun r hr => ?_, fun c hc => ?_, fun a h1 h2 h3 => by rw [g5 a h1 h2 h3, oy a h1 h2 h3]⟩
    · rw [FX12_laysSituation_l49, if_neg (by omega)]
      simp only [Nat.reduceAdd]
      have e1 : rkd 16 F (j + 1) = rkd 16 F j * 16 + F j := rfl
      have e2 : rkd 4 G (j + 1) = rkd 4 G j * 4 + G j := rfl
      have m1 : Int.tmod (rkd 16 F (j + 1)) 16 = F j := by rw [e1, tmod_pos (by omega)]; omega
      have m2 : Int.tmod (rkd 4 G (j + 1)) 4 = G j := by rw [e2, tmod_pos (by omega)]; omega
      have m3 : dv64 (rkd 16 F (j + 1)) 16 = rkd 16 F j := by rw [e1, dv64_pos (by omega) (by omega) (by omega)]; omega
      have m4 : dv32 (rkd 4 G (j + 1)) 4 = rkd 4 G j := by rw [e2, dv32_pos (by omega) (by omega) (by omega)]; omega
      rw [m1, m2, m3, m4, w32_id (x := F j) (by omega) (by omega), show ((j + 1 : Nat) : Int) - 1 = (j : Int) by omega, wr_ok (by omega) (by omega), Option.bind_some, wr_ok (by omega) (by omega), Option.bind_some, rd_ok (by omega) (by omega), Option.bind_some, mu_ne (by omega), mu_eq, wr_ok d1 d2, Option.bind_some, ← hy, w32_id (by omega) (by omega), show (j : Int) + -1 = (j : Int) - 1 by omega]
      exact g1
    · by_cases e : r = j
      · subst e
        rw [(g3 j (by omega)).1, (g3 j (by omega)).2, g4 (F j) nF, hy]
        refine ⟨?_, ?_, mu_eq⟩
        · simp (disch := omega) only [mu_ne, mu_eq]
        · simp (disch := omega) only [mu_ne, mu_eq]
      · exact g2 r r0 (by omega)
    · rw [(g3 r (by omega)).1, (g3 r (by omega)).2, hy]
      simp (disch := omega) only [mu_ne]
      exact ⟨trivial, trivial⟩
    · have hcj := hc j (by omega) (by omega)
      rw [g4 c (fun r r0 r1 => hc r r0 (by omega)), hy, mu_ne (fun q => hcj q.2.symm), mu_ne (by omega), mu_ne (by omega)]
theorem laysSit_ok {N : Nat} {y B P : iv_M} {nd : Nd} {m i : Int} (hN : 100 ≤ N) (hB : WHm m B) (hO : OZ B) (hn : NOK B nd) (hP : Sok m B P) (hE : Eb P y) (i0 : 0 ≤ i) (i1 : i < 1501) (h48 : y 148 i = rw1 B nd) (h49 : y 149 i = rw2 B nd) : ∃ y', FX12_laysSituation N y 113 i = some y' ∧ Eb (layk B nd.1 nd.2.1) y' ∧ ∀ a, (a < 114 ∨ 131 < a) → y' a = y a := by
  have h12 := hB.1.1.2.2.2.2.2.1
  have h0 := hB.1.1.2.2.2.2.1
  have e4 : y 114 = B 114 := by rw [hE 114 (by omega) (by omega), hP.all]
  obtain ⟨n1, n2, n3⟩ := hn
  obtain ⟨g, hg⟩ : ∃ g, g = flM y 121 16 (-1) := ⟨_, rfl⟩
  have og : ∀ a, a ≠ 121 → g a = y a := fun a ha => by rw [hg]; funext j; exact fl_ne ha
  have l18 : ∀ kx, FX12_laysSituation_l18 N 113 (rw1 B nd) (rw2 B nd) kx N y 0 = kx g := fun kx => by
    have hs0 : y = flM y 121 ((0 : Nat) : Int) (-1) := by funext a j; unfold flM; rw [if_neg (by omega)]
    have lp := loop_fn (L := FX12_laysSituation_l18 N 113 (rw1 B nd) (rw2 B nd) kx) (k := kx) (hi := 16) (N := N) (fun i => flM y 121 (i : Int) (-1)) (by omega) (fun n => by rw [FX12_laysSituation_l18, if_pos (by omega)]) (fun n i hi => by
      rw [FX12_laysSituation_l18, if_neg (by omega)]
      simp only [Nat.reduceAdd]
      rw [wr_ok (by omega) (by omega), Option.bind_some, w32_id (by omega) (by omega)]
      congr 1
      funext a j
      show mu (flM y 121 (i : Int) (-1)) 121 i (-1) a j = flM y 121 ((i + 1 : Nat) : Int) (-1) a j
      unfold mu flM
      by_cases c1 : a = 121 ∧ j = (i : Int)
      · rw [if_pos c1, if_pos (by omega)]
      · rw [if_neg c1]
        by_cases c2 : a = 121 ∧ 0 ≤ j ∧ j < (i : Int)
        · rw [if_pos c2, if_pos (by omega)]
        · rw [if_neg c2, if_neg (by omega)]) (by omega)
    have lp' : FX12_laysSituation_l18 N 113 (rw1 B nd) (rw2 B nd) kx N (flM y 121 ((0 : Nat) : Int) (-1)) 0 = kx (flM y 121 16 (-1)) := lp
    rw [← hs0, ← hg] at lp'
    exact lp'
  obtain ⟨z, z1, z2, z3, z4, z5⟩ := sit_l (N := N) (F := un4 nd.1) (G := un2 nd.2.1) (kx := fun (s_3552 : iv_M) => some s_3552) (B 114 2).toNat N g (by omega) (by omega) (fun r r0 r1 => by have := n1.1 r r0 (by omega); exact ⟨⟨this.1, this.2.1⟩, this.2.2.2.2⟩) (fun r r' r0 r1 r0' r1' => n1.2 r r' r0 (by omega) r0' (by omega))
  refine ⟨z, ?_, fun a a0 a1 => ?_, fun a ha => by rw [z5 a (by omega) (by omega) (by omega), og a (by omega)]⟩
  · unfold FX12_laysSituation
    simp only [Nat.reduceAdd]
    rw [rd_ok i0 i1, Option.bind_some, rd_ok i0 i1, Option.bind_some, h48, h49, l18, rd_ok (by omega) (by omega), Option.bind_some, og 114 (by omega), e4, w32_id (by omega) (by omega), show B 114 2 - 1 = (((B 114 2).toNat : Nat) : Int) - 1 by omega]
    exact z1
  · have L5 := hP.1.2.2.2.2
    by_cases c6 : a = 116
    · subst c6
      funext r
      by_cases e : 0 ≤ r ∧ r < B 114 2
      · rw [(z2 r e.1 (by omega)).1]
        exact (lay_6 e.1 e.2).symm
      · rw [(z3 r (by omega)).1, og 116 (by omega), hE 116 (by omega) (by omega), (L5 r e).1]
        show _ = lay B _ _ 116 r
        unfold lay
        rw [if_neg (by omega), if_neg (by omega), if_neg (by omega)]
    · by_cases c7 : a = 117
      · subst c7
        funext r
        by_cases e : 0 ≤ r ∧ r < B 114 2
        · rw [(z2 r e.1 (by omega)).2.1]
          exact (lay_7 e.1 e.2).symm
        · rw [(z3 r (by omega)).2, og 117 (by omega), hE 117 (by omega) (by omega), (L5 r e).2]
          show _ = lay B _ _ 117 r
          unfold lay
          rw [if_neg (by omega), if_neg (by omega), if_neg (by omega)]
      · by_cases c1 : a = 121
        · subst c1
          funext c
          by_cases e : 0 ≤ c ∧ c < 16
          · have hl : layk B nd.1 nd.2.1 121 c = invf (un4 nd.1) c (B 114 2).toNat := lay_1 e.1 e.2
            rw [hl]
            rcases invf_spec (f := un4 nd.1) (c := c) (B 114 2).toNat with ⟨a, b⟩ | ⟨a, b, d⟩
            · rw [a, z4 c b, hg, fl_eq e.1 e.2]
            · have := (z2 _ a b).2.2
              rw [d] at this
              exact this
          · have h16 : ln 121 = 16 := by decide
            have hzc : z 121 c = g 121 c := z4 c (fun r r0 r1 q => by have := n1.1 r r0 (by omega); omega)
            have hgc : g 121 c = y 121 c := by rw [hg]; unfold flM; rw [if_neg (by omega)]
            have hlc : layk B nd.1 nd.2.1 121 c = B 121 c := by
              show lay B _ _ 121 c = _
              unfold lay
              rw [if_neg (by omega), if_neg (by omega), if_neg (by omega)]
            rw [hzc, hgc, hE 121 (by omega) (by omega), hlc, hP.1.2.1 121 (by omega) (by omega) c (by rw [h16]; exact e), hO 121 (by omega) (by omega) c (by rw [h16]; exact e)]
        · rw [z5 a c6 c7 c1, og a c1, hE a a0 a1]
          have hl : layk B nd.1 nd.2.1 a = B a := lay_o c6 c7 c1
          rw [hl]
          by_cases c4 : a = 114
          · rw [c4, hP.all]
          · exact hP.1.2.2.2.1 a (by omega)
/-- what the reference's search leaves alone -/
def Rs (s y : iv_M) : Prop := (∀ a, a ≠ 113 → (a < 114 ∨ 131 < a) → (a < 146 ∨ 153 < a) → y a = s a) ∧ ∀ j, j ≠ 26 → j ≠ 27 → j ≠ 48 → j ≠ 57 → j ≠ 58 → y 113 j = s 113 j
theorem Rs.trans {s x y : iv_M} (h : Rs s x) (h2 : Rs x y) : Rs s y := ⟨fun a z0 z1 z2 => by rw [h2.1 a z0 z1 z2, h.1 a z0 z1 z2], fun j z0 z1 z2 z3 z4 => by rw [h2.2 j z0 z1 z2 z3 z4, h.2 j z0 z1 z2 z3 z4]⟩
theorem Scr.rs {s x : iv_M} (h : Scr s x) : Rs s x := ⟨fun a z0 _ z2 => h.1 a z0 (by omega) (by omega), fun j z0 z1 z2 _ _ => h.2 j z0 z1 z2⟩
/-- the reference's rows when the draft was found from node i by code c -/
def Fnd (y : iv_M) (L : List Nd) (i c : Int) : Prop := y 113 58 = L.length ∧ y 150 L.length = i ∧ y 151 L.length = c ∧ L.length ≤ 1500 ∧ (∀ j : Nat, j < L.length → y 150 j = (nt L j).2.2.1 ∧ y 151 j = (nt L j).2.2.2) ∧ ∀ t, 0 ≤ t → t < 4096 → y 153 t ≤ y 113 56
theorem comes_ok {N : Nat} {y B P : iv_M} {L : List Nd} {m k i c : Int} (hN : 5000 ≤ N) (hB : WHm m B) (hS : SRf y B L) (hL : LT B L) (hP : Sok m B P) (hE : Eb P y) (hd : hdr B k) (hv : FV B (dC B k) (dT B k)) (hf : y 113 58 = -1) (hW : ¬ knn L (wnt B k) = true) :
    (keyB P = wnt B k ∧ ∃ y', FX12_comes N y 113 i c k = some (0, y') ∧ Fnd y' L i c ∧ Rs y y' ∧ ∀ a, 114 ≤ a → a ≤ 131 → y' a = y a) ∨
    (keyB P ≠ wnt B k ∧ knn L (keyB P) = true ∧ FX12_comes N y 113 i c k = some (0, y)) ∨
    (keyB P ≠ wnt B k ∧ ¬ knn L (keyB P) = true ∧ L.length = 1500 ∧ FX12_comes N y 113 i c k = some (1, y)) ∨
    (keyB P ≠ wnt B k ∧ ¬ knn L (keyB P) = true ∧ L.length < 1500 ∧ ∃ y', FX12_comes N y 113 i c k = some (0, y') ∧ SRf y' B (L ++ [((keyB P).1, (keyB P).2, i, c)]) ∧ y' 113 58 = -1 ∧ Rs y y' ∧ ∀ a, 114 ≤ a → a ≤ 131 → y' a = y a) := by
  have hWf := hP.1.1.1
  obtain ⟨t, p1, p2, p3⟩ := placeOf_ok (N := N) hN hS hL hP
  have wh := whereNow_ok (N := N) (by omega) hE hWf
  have ho := howNow_ok (N := N) (by omega) hE hWf
  have dr := isAsDrafted_ok (N := N) (by omega) hE hP hd hv
  have q57 := hS.1
  have hlen := hS.2.1
  have start : FX12_comes N y 113 i c k = (if y 153 t = y 113 56 then some (0, y) else (if y 113 57 = 1500 then (if (if keyB P = wnt B k then (1 : Int) else 0) = 0 then some (1, y) else FX12_comes_b62 N y 113 i c (rkd 16 (P 116) (P 114 2).toNat) (rkd 4 (P 117) (P 114 2).toNat) t (if keyB P = wnt B k then 1 else 0)) else FX12_comes_b62 N y 113 i c (rkd 16 (P 116) (P 114 2).toNat) (rkd 4 (P 117) (P 114 2).toNat) t (if keyB P = wnt B k then 1 else 0))) := by
    unfold FX12_comes
    simp only [Nat.reduceAdd]
    rw [wh, Option.bind_some, ho, Option.bind_some, p1, Option.bind_some, rd_ok p2.1 p2.2, Option.bind_some, dr, Option.bind_some]
  obtain ⟨M, hM⟩ : ∃ M, M = mu (mu (mu (mu (mu (mu y 153 t (y 113 56)) 152 t (L.length : Int)) 148 (L.length : Int) (rkd 16 (P 116) (P 114 2).toNat)) 149 (L.length : Int) (rkd 4 (P 117) (P 114 2).toNat)) 150 (L.length : Int) i) 151 (L.length : Int) c := ⟨_, rfl⟩
  have oM : ∀ a, (a < 148 ∨ 153 < a) → M a = y a := fun a ha => by rw [hM]; simp (disch := omega) only [mu_rw]
  have b62 : ∀ v, FX12_comes_b62 N y 113 i c (rkd 16 (P 116) (P 114 2).toNat) (rkd 4 (P 117) (P 114 2).toNat) t v = (if v = 0 then (FX12_comes_b143 N M 113 (-1) 113) else (FX12_comes_b143 N M 113 (L.length : Int) 113)) := fun v => by
    unfold FX12_comes_b62
    simp only [Nat.reduceAdd]
    rw [wr_ok p2.1 p2.2, Option.bind_some]
    simp (disch := omega) only [mu_ne]
    rw [q57, wr_ok p2.1 p2.2, Option.bind_some]
    simp (disch := omega) only [mu_ne]
    rw [q57, wr_ok (by omega) (by omega), Option.bind_some]
    simp (disch := omega) only [mu_ne]
    rw [q57, wr_ok (by omega) (by omega), Option.bind_some]
    simp (disch := omega) only [mu_ne]
    rw [q57, wr_ok (by omega) (by omega), Option.bind_some]
    simp (disch := omega) only [mu_ne]
    rw [q57, wr_ok (by omega) (by omega), Option.bind_some]
    simp (disch := omega) only [mu_ne]
    rw [q57, hf, ← hM]
  have b143 : ∀ v, FX12_comes_b143 N M 113 v 113 = some (0, mu (mu M 113 58 v) 113 57 ((L.length : Int) + 1)) := fun v => by
    unfold FX12_comes_b143
    rw [pt_ok, Option.bind_some, pt_ok, Option.bind_some, mu_ne (by omega), oM 113 (by omega), q57, w32_id (by omega) (by omega)]
  have rows : ∀ v, (∀ j : Nat, j < L.length → mu (mu M 113 58 v) 113 57 ((L.length : Int) + 1) 148 j = y 148 j ∧ mu (mu M 113 58 v) 113 57 ((L.length : Int) + 1) 149 j = y 149 j ∧ mu (mu M 113 58 v) 113 57 ((L.length : Int) + 1) 150 j = y 150 j ∧ mu (mu M 113 58 v) 113 57 ((L.length : Int) + 1) 151 j = y 151 j) := fun v j hj => by
    rw [hM]
    refine ⟨?_, ?_, ?_, ?_⟩ <;> simp (disch := omega) only [mu_ne]
  have rs : ∀ v, Rs y (mu (mu M 113 58 v) 113 57 ((L.length : Int) + 1)) := fun v => ⟨fun a z0 z1 z2 => by rw [mu_rw z0, mu_rw z0, oM a (by omega)], fun j z0 z1 z2 z3 z4 => by rw [mu_ne (by omega), mu_ne (by omega), oM 113 (by omega)]⟩
  have blkr : ∀ v a, 114 ≤ a → a ≤ 131 → mu (mu M 113 58 v) 113 57 ((L.length : Int) + 1) a = y a := fun v a a0 a1 => by rw [mu_rw (by omega), mu_rw (by omega), oM a (by omega)]
  have m56 : ∀ v, mu (mu M 113 58 v) 113 57 ((L.length : Int) + 1) 113 56 = y 113 56 := fun v => by rw [mu_ne (by omega), mu_ne (by omega), oM 113 (by omega)]
  have m153 : ∀ v u, mu (mu M 113 58 v) 113 57 ((L.length : Int) + 1) 153 u = if u = t then y 113 56 else y 153 u := fun v u => by
    rw [hM]
    by_cases e : u = t
    · rw [if_pos e, e]; simp (disch := omega) only [mu_ne, mu_eq]
    · rw [if_neg e]; simp (disch := omega) only [mu_ne]
  have m152 : ∀ v u, mu (mu M 113 58 v) 113 57 ((L.length : Int) + 1) 152 u = if u = t then (L.length : Int) else y 152 u := fun v u => by
    rw [hM]
    by_cases e : u = t
    · rw [if_pos e, e]; simp (disch := omega) only [mu_ne, mu_eq]
    · rw [if_neg e]; simp (disch := omega) only [mu_ne]
  have mk : ∀ v u, 0 ≤ u → u < 4096 → mu (mu M 113 58 v) 113 57 ((L.length : Int) + 1) 153 u ≤ mu (mu M 113 58 v) 113 57 ((L.length : Int) + 1) 113 56 := fun v u u0 u1 => by
    rw [m153, m56]; split
    · omega
    · exact (hS.2.2.2.2 u u0 u1).1
  by_cases eW : keyB P = wnt B k
  · left
    refine ⟨eW, mu (mu M 113 58 (L.length : Int)) 113 57 ((L.length : Int) + 1), ?_, ⟨by rw [mu_ne (by omega), mu_eq], ?_, ?_, hlen, fun j hj => ?_, mk _⟩, rs _, blkr _⟩
    · have nk : ¬ knn L (keyB P) = true := by rw [eW]; exact hW
      have hne : ¬ y 153 t = y 113 56 := by
        rcases p3 with ⟨z, _⟩ | ⟨_, z, _⟩
        · exact absurd z nk
        · exact z
      have h62 : FX12_comes_b62 N y 113 i c (rkd 16 (P 116) (P 114 2).toNat) (rkd 4 (P 117) (P 114 2).toNat) t 1 = some (0, mu (mu M 113 58 (L.length : Int)) 113 57 ((L.length : Int) + 1)) := by rw [b62, if_neg (show ¬ (1 : Int) = 0 by decide), b143]
      rw [start, if_neg hne, if_pos eW, h62, if_neg (show ¬ (1 : Int) = 0 by decide)]
      split
      · rfl
      · rfl
    · rw [hM]; simp (disch := omega) only [mu_ne, mu_eq]
    · rw [hM]; simp (disch := omega) only [mu_ne, mu_eq]
    · obtain ⟨r1, r2, r3, r4⟩ := hS.2.2.1 j hj
      obtain ⟨_, _, s3, s4⟩ := rows (L.length : Int) j hj
      rw [s3, s4]; exact ⟨r3, r4⟩
  · right
    rcases p3 with ⟨K, z⟩ | ⟨K, z, zH⟩
    · left
      exact ⟨eW, K, by rw [start, if_pos z]⟩
    · right
      by_cases F : L.length < 1500
      · right
        refine ⟨eW, K, F, mu (mu M 113 58 (-1)) 113 57 ((L.length : Int) + 1), ?_, ?_, by rw [mu_ne (by omega), mu_eq], rs _, blkr _⟩
        · rw [start, if_neg z, if_neg (by omega), if_neg eW, b62, if_pos rfl, b143]
        · have hl : (L ++ [((keyB P).1, (keyB P).2, i, c)]).length = L.length + 1 := by simp
          have kq := (key_eq (NOK_sok (fr := i) (c := c) hP).1 hP).mpr ⟨rfl, rfl⟩
          refine ⟨by rw [hl, mu_eq]; omega, by rw [hl]; omega, fun j hj => ?_, ?_, fun u u0 u1 => ⟨mk _ u u0 u1, ?_⟩⟩
          · rw [hl] at hj
            by_cases e : j = L.length
            · rw [e, nt_new]
              refine ⟨?_, ?_, ?_, ?_⟩
              · rw [kq.1, hM]; simp (disch := omega) only [mu_ne, mu_eq]
              · rw [kq.2, hM]; simp (disch := omega) only [mu_ne, mu_eq]
              · rw [hM]; simp (disch := omega) only [mu_ne, mu_eq]
              · rw [hM]; simp (disch := omega) only [mu_ne, mu_eq]
            · rw [nt_old (by omega)]
              obtain ⟨r1, r2, r3, r4⟩ := hS.2.2.1 j (by omega)
              obtain ⟨s1, s2, s3, s4⟩ := rows (-1) j (by omega)
              rw [s1, s2, s3, s4]; exact ⟨r1, r2, r3, r4⟩
          · rw [hl]
            refine zH _ (fun u => ?_) i c
            unfold Eref
            rw [m56, m153, m152]
            by_cases e : u = t
            · rw [if_pos e, if_pos e, if_pos rfl, if_pos e]
            · rw [if_neg e, if_neg e, if_neg e]
          · rw [m153, m56, m152]
            by_cases e : u = t
            · rw [if_pos e, if_pos e]; intro _; omega
            · rw [if_neg e, if_neg e]; exact (hS.2.2.2.2 u u0 u1).2
      · left
        refine ⟨eW, K, by omega, ?_⟩
        rw [start, if_neg z, if_pos (by omega), if_neg eW, if_pos rfl]
