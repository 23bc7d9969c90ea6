-- SITUATIONS of the class: those that came, and the way to one
def SC (x : iv_M) (L : List Nd) : Prop := x 64 4 = L.length ∧ L.length ≤ 1500 ∧ (∀ j : Nat, j < L.length → x 65 j = (nt L j).1 ∧ x 66 j = (nt L j).2.1 ∧ x 67 j = (nt L j).2.2.1 ∧ (0 < j → x 68 j = wcd (nt L j).2.2.2)) ∧ HT (fun t => x 69 t - 1) L.length (fun j => hsh (nt L j).1 (nt L j).2.1)
theorem SC_ext {x x' : iv_M} {L : List Nd} (h4 : x' 64 4 = x 64 4) (h : ∀ a, 65 ≤ a → a ≤ 69 → x' a = x a) (hS : SC x L) : SC x' L := by
  unfold SC at hS ⊢
  rw [h4, h 65 (by omega) (by omega), h 66 (by omega) (by omega), h 67 (by omega) (by omega), h 68 (by omega) (by omega), h 69 (by omega) (by omega)]; exact hS
theorem probe_c {N : Nat} {x : iv_M} {L : List Nd} {a b fr w : Int} {kx : iv_M → Int → Option (Int × iv_M)} (hS : SC x L) : ∀ (k f : Nat), k < 4096 → (∀ e : Nat, e < k → x 69 ((hsh a b + e) % 4096) - 1 ≠ -1 ∧ ¬ ((nt L (x 69 ((hsh a b + e) % 4096) - 1).toNat).1 = a ∧ (nt L (x 69 ((hsh a b + e) % 4096) - 1).toNat).2.1 = b)) → FX9_add_l25 N 64 a b fr w kx (f + k) x (hsh a b) 0 = FX9_add_l25 N 64 a b fr w kx f x ((hsh a b + k) % 4096) k := by
  intro k
  have hr := hsh_rng a b
  induction k with
  | zero => intro f _ _; rw [show (hsh a b + ((0 : Nat) : Int)) % 4096 = hsh a b by omega]; rfl
  | succ k ih =>
    intro f hk he
    rw [show f + (k + 1) = (f + 1) + k by omega, ih (f + 1) (by omega) (fun e h => he e (by omega))]
    obtain ⟨h1, h2⟩ := he k (by omega)
    obtain ⟨t, ht⟩ : ∃ t, t = (hsh a b + (k : Int)) % 4096 := ⟨_, rfl⟩
    rw [← ht] at h1 h2 ⊢
    have t0 : 0 ≤ t ∧ t < 4096 := by omega
    obtain ⟨g1, g2⟩ := hS.2.2.2.1 t t0.1 t0.2
    have g1' : -1 ≤ x 69 t - 1 := g1
    have g2' : x 69 t - 1 < L.length := g2
    have hlen := hS.2.1
    obtain ⟨r1, r2, _⟩ := hS.2.2.1 (x 69 t - 1).toNat (by omega)
    rw [Int.toNat_of_nonneg (by omega)] at r1 r2
    rw [FX9_add_l25, if_neg (by omega)]
    unfold FX9_add_b79
    simp only [Nat.reduceAdd]
    have e1 : w32 (x 69 t - 1) = x 69 t - 1 := w32_id (by omega) (by omega)
    have e2 : bAn (w32 (t + 1)) 4095 = (hsh a b + ((k + 1 : Nat) : Int)) % 4096 := by rw [bAn_4095, w32_id (by omega) (by omega)]; omega
    have e3 : w32 ((k : Int) + 1) = ((k + 1 : Nat) : Int) := by rw [w32_id (by omega) (by omega)]; omega
    rw [rd_ok t0.1 t0.2, Option.bind_some, if_neg (by omega), Option.bind_some, e1, rd_ok (by omega) (by omega), Option.bind_some, r1, e2, e3]
    by_cases c : (nt L (x 69 t - 1).toNat).1 = a
    · rw [if_pos c, rd_ok (by omega) (by omega), Option.bind_some, r2, if_neg (fun z => h2 ⟨c, z⟩)]
    · rw [if_neg c]
theorem add_ok {N : Nat} {x : iv_M} {L : List Nd} {a b fr w : Int} (hN : 5000 ≤ N) (hS : SC x L) : (knn L (a, b) = true ∧ FX9_add N x 64 a b fr w = some (1, x)) ∨ (¬ knn L (a, b) = true ∧ L.length = 1500 ∧ FX9_add N x 64 a b fr w = some (0, x)) ∨ (¬ knn L (a, b) = true ∧ L.length < 1500 ∧ ∃ x', FX9_add N x 64 a b fr w = some (1, x') ∧ (∀ c, (0 < L.length → w = wcd c) → SC x' (L ++ [(a, b, fr, c)])) ∧ (∀ r, r ≠ 64 → (r < 65 ∨ 69 < r) → x' r = x r) ∧ ∀ i, i ≠ 4 → x' 64 i = x 64 i) := by
  have hr := hsh_rng a b
  have hlen := hS.2.1
  obtain ⟨d, d1, d2, d3⟩ := HT_find (hk := hsh a b) hS.2.2.2 (by omega) (fun j => (nt L j).1 = a ∧ (nt L j).2.1 = b)
  have d2' : x 69 ((hsh a b + d) % 4096) - 1 = -1 ∨ ((nt L (x 69 ((hsh a b + d) % 4096) - 1).toNat).1 = a ∧ (nt L (x 69 ((hsh a b + d) % 4096) - 1).toNat).2.1 = b) := d2
  have pr := probe_c (N := N) (fr := fr) (w := w) (kx := fun (s_1409 : iv_M) (x1410_8 : Int) => (FX9_add_b95 N s_1409 64 a b fr w x1410_8)) hS d (N - d) d1 d3
  rw [show N - d + d = N by omega] at pr
  obtain ⟨t, ht⟩ : ∃ t, t = (hsh a b + (d : Int)) % 4096 := ⟨_, rfl⟩
  rw [← ht] at d2' pr
  have t0 : 0 ≤ t ∧ t < 4096 := by omega
  have hadd : FX9_add N x 64 a b fr w = FX9_add_l25 N 64 a b fr w (fun (s_1409 : iv_M) (x1410_8 : Int) => (FX9_add_b95 N s_1409 64 a b fr w x1410_8)) (N - d) x t d := pr
  obtain ⟨f, hf⟩ : ∃ f, N - d = f + 1 := ⟨N - d - 1, by omega⟩
  rw [hf] at hadd
  by_cases K : knn L (a, b) = true
  · left
    refine ⟨K, ?_⟩
    obtain ⟨j, j1, j2, j3⟩ := knn_iff.mp K
    have hne : x 69 t - 1 ≠ -1 := by
      rw [ht]
      exact HT_known (mt := fun j => (nt L j).1 = a ∧ (nt L j).2.1 = b) hS.2.2.2 j1 (by show hsh (nt L j).1 (nt L j).2.1 = hsh a b; rw [j2, j3]) ⟨j2, j3⟩ d3
    rcases d2' with z | ⟨z1, z2⟩
    · exact absurd z hne
    · obtain ⟨g1, g2⟩ := hS.2.2.2.1 t t0.1 t0.2
      have g1' : -1 ≤ x 69 t - 1 := g1
      have g2' : x 69 t - 1 < L.length := g2
      obtain ⟨r1, r2, _⟩ := hS.2.2.1 (x 69 t - 1).toNat (by omega)
      rw [Int.toNat_of_nonneg (by omega)] at r1 r2
      have e1 : w32 (x 69 t - 1) = x 69 t - 1 := w32_id (by omega) (by omega)
      rw [hadd, FX9_add_l25, if_neg (by omega)]
      simp only [Nat.reduceAdd]
      rw [rd_ok t0.1 t0.2, Option.bind_some, if_neg (by omega), Option.bind_some, e1, rd_ok (by omega) (by omega), Option.bind_some, r1, if_pos z1, rd_ok (by omega) (by omega), Option.bind_some, r2, if_pos z2]
  · right
    have hz : x 69 t = 0 := by
      by_cases c0 : x 69 t - 1 = -1
      · omega
      · exfalso
        rcases d2' with z | z
        · exact c0 z
        · obtain ⟨g1, g2⟩ := hS.2.2.2.1 t t0.1 t0.2
          have g1' : -1 ≤ x 69 t - 1 := g1
          have g2' : x 69 t - 1 < L.length := g2
          exact K (knn_iff.mpr ⟨(x 69 t - 1).toNat, by omega, z.1, z.2⟩)
    have hend : FX9_add N x 64 a b fr w = FX9_add_b95 N x 64 a b fr w t := by
      rw [hadd, FX9_add_l25, if_neg (by omega)]
      simp only [Nat.reduceAdd]
      rw [rd_ok t0.1 t0.2, Option.bind_some, if_pos hz]
    by_cases F : L.length < 1500
    · right
      refine ⟨K, F, mu (mu (mu (mu (mu (mu x 65 (L.length : Int) a) 66 (L.length : Int) b) 67 (L.length : Int) fr) 68 (L.length : Int) w) 64 4 ((L.length : Int) + 1)) 69 t ((L.length : Int) + 1), ?_, fun c hc => ?_, fun r r1 r2 => by rw [mu_rw (by omega), mu_rw r1, mu_rw (by omega), mu_rw (by omega), mu_rw (by omega), mu_rw (by omega)], fun i hi => by simp (disch := omega) only [mu_ne]⟩
      · rw [hend]
        unfold FX9_add_b95
        simp only [Nat.reduceAdd]
        have q4 := hS.1
        rw [if_pos (by omega), q4, wr_ok (by omega) (by omega), Option.bind_some]
        simp (disch := omega) only [mu_ne]
        rw [q4, wr_ok (by omega) (by omega), Option.bind_some]
        simp (disch := omega) only [mu_ne]
        rw [q4, wr_ok (by omega) (by omega), Option.bind_some]
        simp (disch := omega) only [mu_ne]
        rw [q4, wr_ok (by omega) (by omega), Option.bind_some]
        simp (disch := omega) only [mu_ne]
        rw [q4, w32_id (by omega) (by omega), pt_ok, Option.bind_some, mu_eq, wr_ok t0.1 t0.2, Option.bind_some]
      · obtain ⟨s1, s2, s3, s4⟩ := hS
        have hl : (L ++ [(a, b, fr, c)]).length = L.length + 1 := by simp
        refine ⟨by rw [hl]; simp (disch := omega) only [mu_ne, mu_eq]; omega, by rw [hl]; omega, fun j hj => ?_, ?_⟩
        · rw [hl] at hj
          by_cases e : j = L.length
          · rw [e, nt_new]
            refine ⟨?_, ?_, ?_, fun h0 => ?_⟩
            · simp (disch := omega) only [mu_ne, mu_eq]
            · simp (disch := omega) only [mu_ne, mu_eq]
            · simp (disch := omega) only [mu_ne, mu_eq]
            · rw [← hc h0]; simp (disch := omega) only [mu_ne, mu_eq]
          · rw [nt_old (by omega)]
            obtain ⟨r1, r2, r3, r4⟩ := s3 j (by omega)
            refine ⟨?_, ?_, ?_, fun h0 => ?_⟩
            · simp (disch := omega) only [mu_ne]; exact r1
            · simp (disch := omega) only [mu_ne]; exact r2
            · simp (disch := omega) only [mu_ne]; exact r3
            · simp (disch := omega) only [mu_ne]; exact r4 h0
        · rw [hl]
          refine HT_put (hk := hsh a b) (d := d) s4 (by show x 69 ((hsh a b + d) % 4096) - 1 = -1; rw [← ht, hz]; rfl) (fun e he => (d3 e he).1) (fun u => ?_) (fun j hj => ?_) ?_
          · rw [← ht]
            show mu _ 69 t ((L.length : Int) + 1) 69 u - 1 = _
            by_cases e : u = t
            · rw [if_pos e, e, mu_eq]; omega
            · rw [if_neg e]; simp (disch := omega) only [mu_ne]
          · show hsh (nt (L ++ [(a, b, fr, c)]) j).1 (nt (L ++ [(a, b, fr, c)]) j).2.1 = _
            rw [nt_old hj]
          · show hsh (nt (L ++ [(a, b, fr, c)]) L.length).1 (nt (L ++ [(a, b, fr, c)]) L.length).2.1 = _
            rw [nt_new]
    · left
      refine ⟨K, by omega, ?_⟩
      rw [hend]
      unfold FX9_add_b95
      rw [if_neg (by rw [hS.1]; omega)]
-- the way
theorem trc_fuel {B : iv_M} {L : List Nd} (h : LT B L) : ∀ (i n m : Nat), i < L.length → i ≤ n → i ≤ m → trc L n i = trc L m i := by
  intro i
  induction i using Nat.strongRecOn with
  | _ i ih =>
    intro n m hi hn hm
    by_cases c : i = 0
    · subst c
      cases n with
      | zero => cases m with
        | zero => rfl
        | succ m => show [] = if 0 = 0 then [] else _; rw [if_pos rfl]
      | succ n => cases m with
        | zero => show (if 0 = 0 then [] else _) = []; rw [if_pos rfl]
        | succ m => show (if 0 = 0 then [] else _) = if 0 = 0 then [] else _; rw [if_pos rfl, if_pos rfl]
    · obtain ⟨⟨h1, h2⟩, _⟩ := h.2 i (by omega) hi
      obtain ⟨n', rfl⟩ : ∃ n', n = n' + 1 := ⟨n - 1, by omega⟩
      obtain ⟨m', rfl⟩ : ∃ m', m = m' + 1 := ⟨m - 1, by omega⟩
      have h1' : 0 ≤ (L.getD i (0, 0, 0, 0)).2.2.1 := h1
      have h2' : (L.getD i (0, 0, 0, 0)).2.2.1 < i := h2
      show (if i = 0 then [] else trc L n' (L.getD i (0, 0, 0, 0)).2.2.1.toNat ++ [(L.getD i (0, 0, 0, 0)).2.2.2]) = (if i = 0 then [] else trc L m' (L.getD i (0, 0, 0, 0)).2.2.1.toNat ++ [(L.getD i (0, 0, 0, 0)).2.2.2])
      rw [if_neg c, if_neg c, ih (L.getD i (0, 0, 0, 0)).2.2.1.toNat (by omega) n' m' (by omega) (by omega) (by omega)]
def trw (L : List Nd) (i : Nat) : List Int := trc L L.length i
theorem trw_0 {L : List Nd} : trw L 0 = [] := by
  unfold trw
  cases L.length with
  | zero => rfl
  | succ n => show (if 0 = 0 then [] else _) = []; rw [if_pos rfl]
theorem trw_s {B : iv_M} {L : List Nd} {i : Nat} (h : LT B L) (h0 : 0 < i) (hi : i < L.length) : trw L i = trw L (nt L i).2.2.1.toNat ++ [(nt L i).2.2.2] := by
  obtain ⟨⟨h1, h2⟩, _⟩ := h.2 i h0 hi
  unfold trw
  obtain ⟨n, hn⟩ : ∃ n, L.length = n + 1 := ⟨L.length - 1, by omega⟩
  rw [trc_fuel h (nt L i).2.2.1.toNat L.length n (by omega) (by omega) (by omega), hn]
  show (if i = 0 then [] else trc L n (L.getD i (0, 0, 0, 0)).2.2.1.toNat ++ [(L.getD i (0, 0, 0, 0)).2.2.2]) = _
  rw [if_neg (by omega)]
  rfl
theorem trw_len {B : iv_M} {L : List Nd} (h : LT B L) : ∀ i : Nat, i < L.length → (trw L i).length ≤ i := by
  intro i
  induction i using Nat.strongRecOn with
  | _ i ih =>
    intro hi
    by_cases c : i = 0
    · rw [c, trw_0]; simp
    · obtain ⟨⟨h1, h2⟩, _⟩ := h.2 i (by omega) hi
      rw [trw_s h (by omega) hi, List.length_append]
      have := ih (nt L i).2.2.1.toNat (by omega) (by omega)
      simp
      omega
theorem trace_len {N : Nat} {x B : iv_M} {L : List Nd} {q w : Int} {kx : iv_M → Int → Option (Int × iv_M)} (hS : SC x L) (hL : LT B L) : ∀ (i f : Nat) (n : Int), i < L.length → i < f → 1 ≤ n → n + (trw L i).length ≤ 1500 → FX9_trace_l5 N 64 q w kx f x n i = kx x (n + (trw L i).length) := by
  intro i
  induction i using Nat.strongRecOn with
  | _ i ih =>
    intro f n hi hf hn hb
    obtain ⟨f', rfl⟩ : ∃ f', f = f' + 1 := ⟨f - 1, by omega⟩
    have hlen := hS.2.1
    by_cases c : i = 0
    · subst c
      rw [FX9_trace_l5, if_pos (by omega), trw_0]
      show kx x n = kx x (n + ((0 : Nat) : Int))
      rw [show n + ((0 : Nat) : Int) = n by omega]
    · obtain ⟨⟨h1, h2⟩, _⟩ := hL.2 i (by omega) hi
      have e := trw_s hL (by omega) hi
      have el : (trw L i).length = (trw L (nt L i).2.2.1.toNat).length + 1 := by rw [e, List.length_append]; simp
      have r3 := (hS.2.2.1 i hi).2.2.1
      have := ih (nt L i).2.2.1.toNat (by omega) f' (n + 1) (by omega) (by omega) (by omega) (by omega)
      rw [Int.toNat_of_nonneg h1] at this
      rw [FX9_trace_l5, if_neg (by omega), if_neg (by omega)]
      simp only [Nat.reduceAdd]
      rw [rd_ok (by omega) (by omega), Option.bind_some, r3, w32_id (by omega) (by omega), this, show n + 1 + ((trw L (nt L i).2.2.1.toNat).length : Int) = n + ((trw L i).length : Int) by omega]
theorem trace_path {N : Nat} {B : iv_M} {L : List Nd} {q : Int} {kx : iv_M → Option (Int × iv_M)} (hL : LT B L) (hlen : L.length ≤ 1500) : ∀ (i f : Nat) (x : iv_M), i < L.length → i < f → (∀ j : Nat, 0 < j → j < L.length → x 67 j = (nt L j).2.2.1 ∧ x 68 j = wcd (nt L j).2.2.2) → ∃ x', FX9_trace_l51 N 64 q kx f x i (((trw L i).length : Int) - 1) = kx x' ∧ (∀ k : Nat, k < (trw L i).length → x' 80 k = wcd ((trw L i).getD k 0)) ∧ (∀ k : Int, ((trw L i).length : Int) ≤ k → x' 80 k = x 80 k) ∧ ∀ a, a ≠ 80 → x' a = x a := by
  intro i
  induction i using Nat.strongRecOn with
  | _ i ih =>
    intro f x hi hf hr
    obtain ⟨f', rfl⟩ : ∃ f', f = f' + 1 := ⟨f - 1, by omega⟩
    by_cases c : i = 0
    · subst c
      refine ⟨x, ?_, (fun k hk => by rw [trw_0] at hk; cases hk), fun _ _ => rfl, fun _ _ => rfl⟩
      rw [FX9_trace_l51, trw_0, if_pos (by decide)]
    · obtain ⟨⟨h1, h2⟩, _⟩ := hL.2 i (by omega) hi
      have e := trw_s hL (by omega) hi
      have el : (trw L i).length = (trw L (nt L i).2.2.1.toNat).length + 1 := by rw [e, List.length_append]; simp
      have hl := trw_len hL i hi
      obtain ⟨r3, r4⟩ := hr i (by omega) hi
      obtain ⟨y, hy⟩ : ∃ y, y = mu x 80 (((trw L i).length : Int) - 1) (wcd (nt L i).2.2.2) := ⟨_, rfl⟩
      have oy : ∀ a, a ≠ 80 → y a = x a := fun a ha => by rw [hy, mu_rw ha]
      obtain ⟨x', g1, g2, g3, g4⟩ := ih (nt L i).2.2.1.toNat (by omega) f' y (by omega) (by omega) (fun j j0 j1 => by rw [oy 67 (by omega), oy 68 (by omega)]; exact hr j j0 j1)
      rw [Int.toNat_of_nonneg h1] at g1
      refine ⟨x', ?_, fun k hk => ?_, fun k hk => ?_, fun a ha => by rw [g4 a ha, oy a ha]⟩
      · rw [FX9_trace_l51, if_neg (by omega), if_neg (by omega)]
        simp only [Nat.reduceAdd]
        rw [rd_ok (by omega) (by omega), Option.bind_some, r4, wr_ok (by omega) (by omega), Option.bind_some, ← hy, rd_ok (by omega) (by omega), Option.bind_some, oy 67 (by omega), r3, w32_id (by omega) (by omega), show ((trw L i).length : Int) - 1 + -1 = ((trw L (nt L i).2.2.1.toNat).length : Int) - 1 by omega]
        exact g1
      · by_cases ck : k < (trw L (nt L i).2.2.1.toNat).length
        · rw [g2 k ck, e, gd_app ck]
        · have hk2 : k = (trw L (nt L i).2.2.1.toNat).length := by omega
          rw [g3 k (by omega), hy, show (k : Int) = ((trw L i).length : Int) - 1 by omega, mu_eq, e]
          have := gd_at (l := trw L (nt L i).2.2.1.toNat) (t := []) (k := k) (d := 0) (x := (nt L i).2.2.2) hk2
          rw [List.append_nil] at this
          rw [this]
      · rw [g3 k (by omega), hy, mu_ne (by omega)]
theorem trace_ok {N : Nat} {x B : iv_M} {L : List Nd} {i : Nat} {c : Int} (hN : 5000 ≤ N) (hS : SC x L) (hL : LT B L) (hi : i < L.length) : ∃ x', FX9_trace N x 64 i (wcd c) = some (((trw L i).length : Int) + 1, x') ∧ (∀ k : Nat, k < (trw L i ++ [c]).length → x' 80 k = wcd ((trw L i ++ [c]).getD k 0)) ∧ ∀ a, a ≠ 80 → x' a = x a := by
  have hl := trw_len hL i hi
  have hlen := hS.2.1
  obtain ⟨y, hy⟩ : ∃ y, y = mu x 80 ((trw L i).length : Int) (wcd c) := ⟨_, rfl⟩
  have oy : ∀ a, a ≠ 80 → y a = x a := fun a ha => by rw [hy, mu_rw ha]
  obtain ⟨x', g1, g2, g3, g4⟩ := trace_path (N := N) (q := ((trw L i).length : Int) + 1) (kx := fun (s_1447 : iv_M) => (FX9_trace_b90 N s_1447 (((trw L i).length : Int) + 1))) hL hlen i N y hi (by omega) (fun j j0 j1 => by
    rw [oy 67 (by omega), oy 68 (by omega)]
    obtain ⟨_, _, r3, r4⟩ := hS.2.2.1 j j1
    exact ⟨r3, r4 j0⟩)
  refine ⟨x', ?_, fun k hk => ?_, fun a ha => by rw [g4 a ha, oy a ha]⟩
  · unfold FX9_trace
    rw [trace_len hS hL i N 1 hi (by omega) (by omega) (by omega)]
    unfold FX9_trace_b34
    simp only [Nat.reduceAdd]
    rw [show (1 : Int) + ((trw L i).length : Int) = ((trw L i).length : Int) + 1 by omega, w32_id (x := ((trw L i).length : Int) + 1 - 1) (by omega) (by omega), show ((trw L i).length : Int) + 1 - 1 = ((trw L i).length : Int) by omega, wr_ok (by omega) (by omega), Option.bind_some, ← hy, w32_id (by omega) (by omega), show ((trw L i).length : Int) + 1 - 2 = ((trw L i).length : Int) - 1 by omega, g1]
    rfl
  · rw [List.length_append] at hk
    by_cases ck : k < (trw L i).length
    · rw [g2 k ck, gd_app ck]
    · have hk2 : k = (trw L i).length := by simp at hk; omega
      rw [g3 k (by omega), hy, show (k : Int) = ((trw L i).length : Int) by omega, mu_eq]
      have := gd_at (l := trw L i) (t := []) (k := k) (d := 0) (x := c) hk2
      rw [List.append_nil] at this
      rw [this]
