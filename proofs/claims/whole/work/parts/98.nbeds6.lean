-- BEDS: the reference's answer
def bR1 (s z : iv_M) : Prop := (∀ a, a ≠ 113 → (a < 114 ∨ 131 < a) → a ≠ 146 → a ≠ 147 → a ≠ 154 → (a < 162 ∨ 167 < a) → z a = s a) ∧ ∀ j, j ≠ 26 → j ≠ 27 → j ≠ 48 → j ≠ 68 → z 113 j = s 113 j
theorem fillsWho_ok {N : Nat} {s B : iv_M} {ru : Option (List (List (Int × Int)))} {m : Int} (hN : 1000 ≤ N) (hB : WHm m B) (hm : m ≤ 40000) (hO : OZ B) (hE : Eb B s) (hR : RUO s (B 114 12) ru) : ∃ z, FX12_fillsWho N s 113 = some z ∧ Eb B z ∧ (∀ p : Nat, (p : Int) < B 114 3 → bSt (z 163 p) (bmy ru B p)) ∧ (∀ j : Int, 0 ≤ j → j < 72 → z 167 j = 0) ∧ bR1 s z := by
  have hW := hB.1
  have a8 := hB.2.1.2.2.2.2.2.1
  have a3 := hB.2.1.1
  obtain ⟨K, hK⟩ : ∃ K, K = flF s 154 0 12 := ⟨_, rfl⟩
  have Ko : ∀ a, a ≠ 154 → K a = s a := fun a ha => by rw [hK, flF_o ha]
  have hbK : Eb B K := fun a z0 z1 => by rw [Ko a (by omega), hE a z0 z1]
  obtain ⟨X, x1, x2, x3, x4, x5, x6⟩ := followsSome_ok (N := N) (s := K) (B := B) (ru := ru) (n := B 114 8) hN hB (by omega) hO hbK (RUO_ext (fun a ha => by rw [Ko a (by omega)]) hR) a8.1 (by omega)
  obtain ⟨f1, f2, f3⟩ := liv_ok (ru := ru) hB hO (B 114 8).toNat (by omega)
  have X154 : X 154 = K 154 := x5 154 (by omega) (by omega) (by omega) (by omega) (by omega)
  obtain ⟨Y, y1, y2, y3⟩ := laid_back (N := N) (s := B) (x := X) (P := (liv ru B (B 114 8).toNat).1) (by omega) hW hO f1 (fun j => by rw [x2 114 (by omega) (by omega)]; exact mnJ f1 j) (fun a z0 z1 => by rw [x2 a (by omega) z1, mu_rw (by omega)]) (fun r r0 r1 => by
    rw [X154, hK]
    have := flF_c (s := s) (q := 154) (b := 0) r0 r1
    rw [show (0 : Int) + 2 * r = 2 * r by omega, hE 116 (by omega) (by omega), hE 117 (by omega) (by omega)] at this
    exact this)
  have h62 : ∀ j r : Int, 0 ≤ j → j ≤ B 114 8 → 0 ≤ r → r < 12 → Y 162 (12 * j + r) = (liv ru B j.toNat).1 116 r := fun j r j0 j1 r0 r1 => by rw [y3 162 (by omega)]; exact x4 j r j0 j1 r0 r1
  obtain ⟨W, ⟨_, w1, w2⟩, w3⟩ := loop_up (L := fun n x i => FX12_fillsWho_l31 N 113 (fun (s_4106 : iv_M) => (FX12_fillsWho_l99 N 113 (fun (s_4108 : iv_M) => some s_4108) N s_4106 0)) n x i) (k := fun (s_4106 : iv_M) => (FX12_fillsWho_l99 N 113 (fun (s_4108 : iv_M) => some s_4108) N s_4106 0)) (hi := B 114 3) (fun p x => 0 ≤ p ∧ (∀ q : Nat, (q : Int) < p → bSt (x 163 q) (bmy ru B q)) ∧ ∀ a, a ≠ 163 → x a = Y a) (fun n x hx => by
      show FX12_fillsWho_l31 N 113 _ (n + 1) x (B 114 3) = _
      rw [FX12_fillsWho_l31]
      simp only [Nat.reduceAdd]
      rw [rd_ok (by omega) (by omega), Option.bind_some, hx.2.2 114 (by omega), y2 114 (by omega) (by omega), if_pos (by omega)]) (fun n j x hx hj => by
      obtain ⟨q0, q1, q2⟩ := hx
      obtain ⟨p, rfl⟩ := Int.eq_ofNat_of_zero_le q0
      obtain ⟨x', hx'⟩ : ∃ x', x' = mu x 163 (p : Int) 0 := ⟨_, rfl⟩
      obtain ⟨z', g1, g2, g3, g4⟩ := who_l (N := N) (s := Y) (B := B) (ru := ru) (kx := fun (s_4114 : iv_M) => (FX12_fillsWho_l31 N 113 (fun (s_4106 : iv_M) => (FX12_fillsWho_l99 N 113 (fun (s_4108 : iv_M) => some s_4108) N s_4106 0)) n s_4114 (w32 ((p : Int) + 1)))) (by omega) hB y2 h62 p hj x' (fun a ha => by rw [hx', mu_rw ha]; exact q2 a ha) (by rw [hx', mu_eq])
      refine ⟨z', ?_, by omega, fun q hq => ?_, g4⟩
      · show FX12_fillsWho_l31 N 113 _ (n + 1) x (p : Int) = FX12_fillsWho_l31 N 113 _ n z' ((p : Int) + 1)
        rw [FX12_fillsWho_l31]
        simp only [Nat.reduceAdd]
        rw [rd_ok (by omega) (by omega), Option.bind_some, q2 114 (by omega), y2 114 (by omega) (by omega), if_neg (by omega), wr_ok (by omega) (by omega), Option.bind_some, ← hx']
        refine Eq.trans g1 ?_
        show FX12_fillsWho_l31 N 113 _ n z' (w32 ((p : Int) + 1)) = _
        rw [w32_id (by omega) (by omega)]
      · by_cases e : q = p
        · rw [e]; exact g2
        · rw [g3 q (by omega), hx', mu_ne (by omega)]; exact q1 q (by omega)) N 0 Y ⟨by omega, fun q hq => by omega, fun a _ => rfl⟩ a3.1 (by omega)
  have l99 : FX12_fillsWho_l99 N 113 (fun (s_4108 : iv_M) => some s_4108) N W 0 = some (flM W 167 72 0) := by
    have h0 : W = flM W 167 ((0 : Nat) : Int) 0 := by funext a i; unfold flM; rw [if_neg (by omega)]
    have lp := loop_fn (L := FX12_fillsWho_l99 N 113 (fun (s_4108 : iv_M) => some s_4108)) (k := fun (s_4108 : iv_M) => some s_4108) (hi := 72) (N := N) (fun i => flM W 167 (i : Int) 0) (by omega) (fun m => by rw [FX12_fillsWho_l99, if_pos (by omega)]) (fun m i hi => by
      rw [FX12_fillsWho_l99, if_neg (by omega)]
      simp only [Nat.reduceAdd]
      rw [wr_ok (by omega) (by omega), Option.bind_some, w32_id (by omega) (by omega)]
      congr 1
      funext a j
      show mu (flM W 167 (i : Int) 0) 167 i 0 a j = flM W 167 ((i + 1 : Nat) : Int) 0 a j
      unfold mu flM
      by_cases c1 : a = 167 ∧ j = (i : Int)
      · rw [if_pos c1, if_pos (by omega)]
      · rw [if_neg c1]
        by_cases c2 : a = 167 ∧ 0 ≤ j ∧ j < (i : Int)
        · rw [if_pos c2, if_pos (by omega)]
        · rw [if_neg c2, if_neg (by omega)]) (by omega)
    have lp' : FX12_fillsWho_l99 N 113 (fun (s_4108 : iv_M) => some s_4108) N (flM W 167 ((0 : Nat) : Int) 0) 0 = some (flM W 167 72 0) := lp
    rw [← h0] at lp'
    exact lp'
  have oz : ∀ a, a ≠ 167 → flM W 167 72 0 a = W a := fun a ha => by funext i; exact fl_ne ha
  refine ⟨flM W 167 72 0, ?_, fun a z0 z1 => by rw [oz a (by omega), w2 a (by omega), y2 a z0 z1], fun p hp => by rw [oz 163 (by omega)]; exact w1 p hp, fun j j0 j1 => fl_eq j0 j1, fun a z0 z1 z2 z3 z4 z5 => by rw [oz a (by omega), w2 a (by omega), y3 a (by omega), x5 a z0 z1 z2 z3 (by omega), Ko a z4], fun j z0 z1 z2 z3 => by rw [oz 113 (by omega), w2 113 (by omega), y3 113 (by omega), x6 j z0 z1 z2 z3, Ko 113 (by omega)]⟩
  unfold FX12_fillsWho
  simp only [Nat.reduceAdd]
  rw [FX12_fillsFloor_ok (m := 24) (by omega) (by omega) (by decide) (by omega) (by omega), Option.bind_some, ← hK, rd_ok (by omega) (by omega), Option.bind_some, hbK 114 (by omega) (by omega), x1, Option.bind_some, y1, Option.bind_some]
  exact w3.trans l99
def bwl (ru : Option (List (List (Int × Int)))) (B : iv_M) : List (List Nat) := bas (bmy ru B) (B 114 2).toNat (B 114 3).toNat 0 (fun _ => false)
theorem bKd_6 : ∀ P : Fin 7, bKd P.val ≤ 3528889 := by decide +kernel
theorem bwl_le {may : Nat → Nat → Bool} {n P : Nat} (hn : n ≤ 12) (hP : P ≤ 6) : (bas may n P 0 (fun _ => false)).length ≤ 2985984 := by
  have h1 := bas_len (may := may) (n := n) P 0 (fun _ => false)
  have h2 := bcn_le (may := may) hn (bps P 0) (fun _ => false)
  have h3 : ∀ d p, (bps d p).length = d := by
    intro d
    induction d with
    | zero => intro p; rfl
    | succ d ih => intro p; show (bps d (p + 1)).length + 1 = d + 1; rw [ih]
  rw [h3] at h2
  have h4 : 12 ^ P ≤ 12 ^ 6 := Nat.pow_le_pow_right (by decide) hP
  have h5 : 12 ^ 6 = 2985984 := by decide
  omega
theorem findsBeds_ok {N : Nat} {s B : iv_M} {ru : Option (List (List (Int × Int)))} {m : Int} (hN : 20000000 ≤ N) (hB : WHm m B) (hm : m ≤ 40000) (hO : OZ B) (hE : Eb B s) (hR : RUO s (B 114 12) ru) : ∃ z, FX12_findsBeds N s 113 = some (((bwl ru B).length : Int), z) ∧ Eb B z ∧ bTb (B 114 3).toNat (bwl ru B).length z (bwl ru B) ∧ bR1 s z := by
  obtain ⟨y, y1, y2, y3, y4, y5⟩ := fillsWho_ok (N := N) (by omega) hB hm hO hE hR
  have a3 := hB.2.1.1
  have a4 := hB.1.1.2.2.2.2.1
  have a5 := hB.1.1.2.2.2.2.2.1
  obtain ⟨P, hP⟩ : ∃ P, P = (B 114 3).toNat := ⟨_, rfl⟩
  have hP2 : B 114 3 = P := by omega
  obtain ⟨w, hw⟩ : ∃ w, w = mu (mu y 164 0 (-1)) 165 0 0 := ⟨_, rfl⟩
  have ow : ∀ a, a ≠ 164 → a ≠ 165 → w a = y a := fun a a1 a2 => by rw [hw, mu_rw a2, mu_rw a1]
  have hEw : Eb B w := fun a z0 z1 => by rw [ow a (by omega) (by omega), y2 a z0 z1]
  have hT0 : bTb P 0 w [] := ⟨rfl, fun p r hp hr => by rw [ow 167 (by omega) (by omega), y4 _ (by omega) (by omega)]; rfl, fun l ls e => by cases e⟩
  rw [← hP]
  unfold bwl
  rw [← hP]
  by_cases e : P = 0
  · refine ⟨w, ?_, hEw, ?_, fun a z0 z1 z2 z3 z4 z5 => by rw [ow a (by omega) (by omega), y5.1 a z0 z1 z2 z3 z4 z5], fun j z0 z1 z2 z3 => by rw [ow 113 (by omega) (by omega), y5.2 j z0 z1 z2 z3]⟩
    · unfold FX12_findsBeds FX12_findsBeds_b22 FX12_findsBeds_b191
      simp only [Nat.reduceAdd]
      obtain ⟨f, hf⟩ : ∃ f, N = f + 1 := ⟨N - 1, by omega⟩
      rw [y1, Option.bind_some, rd_ok (by omega) (by omega), Option.bind_some, y2 114 (by omega) (by omega), hP2, e, if_pos (by rfl), wr_ok (by omega) (by omega), Option.bind_some, wr_ok (by omega) (by omega), Option.bind_some, ← hw]
      have : ∀ kx : iv_M → Int → Option (Int × iv_M), FX12_findsBeds_l37 N 113 ((0 : Nat) : Int) kx N w 0 (-1) = kx w 0 := fun kx => by
        conv => lhs; arg 5; rw [hf]
        rw [FX12_findsBeds_l37, if_pos (by decide)]
      rw [this]
      rfl
    · rw [e]
      exact ⟨rfl, fun p r hp => by omega, fun l ls _ p hp => by omega⟩
  · obtain ⟨d, hd⟩ : ∃ d, P = d + 1 := ⟨P - 1, by omega⟩
    have hle := bwl_le (may := bmy ru B) (n := (B 114 2).toNat) (P := P) (by omega) (by omega)
    have hkd := bKd_6 ⟨P, by omega⟩
    obtain ⟨K, z, c, k1, k2, k3, k4, k5⟩ := bed_lv (N := N) (P := P) (n := (B 114 2).toNat) (s := w) (may := bmy ru B) (kx := fun (s_4147 : iv_M) (x4148_2 : Int) => (if (P : Int) = 0 then (FX12_findsBeds_b191 N s_4147 1) else (FX12_findsBeds_b191 N s_4147 x4148_2))) (by omega) (by omega) (by omega) (by rw [hEw 114 (by omega) (by omega)]; omega) (fun p hp => by rw [ow 163 (by omega) (by omega)]; exact y3 p (by omega)) d 0 (fun _ => false) [] [] 0 w (by omega) rfl (fun j hj => by cases hj) (by rw [hw, mu_rw (by omega)]; exact mu_eq) (by rw [hw]; show bSt (mu (mu y 164 0 (-1)) 165 0 0 165 0) _; rw [mu_eq]; exact bSt_0) hT0 (by rw [← hd]; show 0 + _ ≤ _; omega) (fun a _ _ _ _ => rfl)
    rw [← hd] at k1 k3
    have hmap : (bas (bmy ru B) (B 114 2).toNat P 0 (fun _ => false)).map (fun l => [] ++ l) = bas (bmy ru B) (B 114 2).toNat P 0 (fun _ => false) := by
      have : (fun l : List Nat => [] ++ l) = id := by funext l; rfl
      rw [this, List.map_id]
    rw [hmap, List.nil_append] at k3
    have hc := k3.1
    have hkd' : bKd P ≤ 3528889 := hkd
    refine ⟨z, ?_, fun a z0 z1 => by rw [k4 a (by omega) (by omega) (by omega) (by omega), hEw a z0 z1], by rw [← hc]; exact k3, fun a z0 z1 z2 z3 z4 z5 => by rw [k4 a (by omega) (by omega) (by omega) (by omega), ow a (by omega) (by omega), y5.1 a z0 z1 z2 z3 z4 z5], fun j z0 z1 z2 z3 => by rw [k4 113 (by omega) (by omega) (by omega) (by omega), ow 113 (by omega) (by omega), y5.2 j z0 z1 z2 z3]⟩
    obtain ⟨f, hf⟩ : ∃ f, N = (f + 1) + K := ⟨N - 1 - K, by omega⟩
    have run := k2 (f + 1)
    rw [← hf] at run
    unfold FX12_findsBeds FX12_findsBeds_b22
    simp only [Nat.reduceAdd]
    rw [y1, Option.bind_some, rd_ok (by omega) (by omega), Option.bind_some, y2 114 (by omega) (by omega), hP2, if_neg (by omega), wr_ok (by omega) (by omega), Option.bind_some, wr_ok (by omega) (by omega), Option.bind_some, ← hw]
    refine Eq.trans run ?_
    rw [FX12_findsBeds_l37, if_pos (by omega), if_neg (by omega), hc]
    rfl
