-- A ROOM IS PUT, OR TAKEN, on a floor of the class
def pmk (s : iv_M) (q : Nat) (r c t i : Int) : Int := srt (s (q + 4) (4 * r + (i - t) % 4))
def putM (s : iv_M) (q : Nat) (r c t : Int) : iv_M :=
  mu (mu (mu (mu (mu (mu (mu (mu (mu s (q + 1) r c) (q + 2) r t) (q + 3) c r) q 3 (bOr (bAn (s q 3) (bXo (sl64 15 (4 * r)) (-1))) (sl64 c (4 * r)))) q 4 (bOr (bAn (s q 4) (bXo (sl32 3 (2 * r)) (-1))) (sl32 t (2 * r))))
    (q + 5) (4 * c + 0) (pmk s q r c t 0)) (q + 5) (4 * c + 1) (pmk s q r c t 1)) (q + 5) (4 * c + 2) (pmk s q r c t 2)) (q + 5) (4 * c + 3) (pmk s q r c t 3)
theorem FX1_put_st {N q n : Nat} {s : iv_M} {r c t i : Int} {kx : iv_M → Option iv_M} (hsh : (sh (q + 5)).2 = 64) (r0 : 0 ≤ r) (r1 : r < 12) (c0 : 0 ≤ c) (c1 : c < 16) (t0 : 0 ≤ t) (t1 : t < 4) (i0 : 0 ≤ i) (i1 : i < 4) : FX1_put_l73 N q r c t kx (n + 1) s i = FX1_put_l73 N q r c t kx n (mu s (q + 5) (4 * c + i) (pmk s q r c t i)) (i + 1) := by
  rw [FX1_put_l73, if_neg (by omega)]
  unfold FX1_put_b118
  simp (disch := omega) only [w32_id, bAn_3, rd_ok, Option.bind_some, hsh]
  unfold pmk srt
  split
  · rw [wr_ok (by omega) (by omega)]; rfl
  · rw [wr_ok (by omega) (by omega)]; rfl
theorem FX1_put_ok {N q : Nat} {s : iv_M} {r c t : Int} (hN : 10 ≤ N) (hsh : (sh (q + 5)).2 = 64) (r0 : 0 ≤ r) (r1 : r < 12) (c0 : 0 ≤ c) (c1 : c < 16) (t0 : 0 ≤ t) (t1 : t < 4) : FX1_put N s q r c t = some (putM s q r c t) := by
  unfold FX1_put
  simp (disch := omega) only [w32_id, wr_ok, pt_ok, Option.bind_some]
  obtain ⟨M, rfl⟩ : ∃ M, N = M + 5 := ⟨N - 5, by omega⟩
  rw [FX1_put_st hsh r0 r1 c0 c1 t0 t1 (by omega) (by omega), FX1_put_st hsh r0 r1 c0 c1 t0 t1 (by omega) (by omega), FX1_put_st hsh r0 r1 c0 c1 t0 t1 (by omega) (by omega), FX1_put_st hsh r0 r1 c0 c1 t0 t1 (by omega) (by omega), FX1_put_l73, if_pos (by omega)]
  unfold putM
  congr 1
  simp (disch := omega) only [mu_ne, pmk]
  rfl
theorem pm_out {s : iv_M} {q a : Nat} {r c t i : Int} (h : a < q ∨ q + 5 < a ∨ a = q + 4) : putM s q r c t a i = s a i := by
  unfold putM; simp (disch := omega) only [mu_ne]
theorem pm_0 {s : iv_M} {q : Nat} {r c t i : Int} (h : i ≠ 3) (h4 : i ≠ 4) : putM s q r c t q i = s q i := by
  unfold putM; simp (disch := omega) only [mu_ne]
theorem pm_03 {s : iv_M} {q : Nat} {r c t : Int} : putM s q r c t q 3 = bOr (bAn (s q 3) (bXo (sl64 15 (4 * r)) (-1))) (sl64 c (4 * r)) := by
  unfold putM; simp (disch := omega) only [mu_ne, mu_eq]
theorem pm_04 {s : iv_M} {q : Nat} {r c t : Int} : putM s q r c t q 4 = bOr (bAn (s q 4) (bXo (sl32 3 (2 * r)) (-1))) (sl32 t (2 * r)) := by
  unfold putM; simp (disch := omega) only [mu_ne, mu_eq]
theorem pm_1 {s : iv_M} {q : Nat} {r c t i : Int} : putM s q r c t (q + 1) i = if i = r then c else s (q + 1) i := by
  unfold putM; simp (disch := omega) only [mu_ne]; unfold mu; simp
theorem pm_2 {s : iv_M} {q : Nat} {r c t i : Int} : putM s q r c t (q + 2) i = if i = r then t else s (q + 2) i := by
  unfold putM; simp (disch := omega) only [mu_ne]; unfold mu; simp
theorem pm_3 {s : iv_M} {q : Nat} {r c t i : Int} : putM s q r c t (q + 3) i = if i = c then r else s (q + 3) i := by
  unfold putM; simp (disch := omega) only [mu_ne]; unfold mu; simp
theorem pm_5 {s : iv_M} {q : Nat} {r c t d : Int} (d0 : 0 ≤ d) (d1 : d < 4) : putM s q r c t (q + 5) (4 * c + d) = pmk s q r c t d := by
  unfold putM
  rcases four d0 d1 with rfl | rfl | rfl | rfl <;> simp (disch := omega) only [mu_ne, mu_eq]
theorem pm_5n {s : iv_M} {q : Nat} {r c t c' d : Int} (d0 : 0 ≤ d) (d1 : d < 4) (h : c' ≠ c) : putM s q r c t (q + 5) (4 * c' + d) = s (q + 5) (4 * c' + d) := by
  unfold putM; simp (disch := omega) only [mu_ne]
def FRx (X : Int → Prop) (s : iv_M) (q : Nat) (B : iv_M) : Prop :=
  s q 0 = B 114 0 ∧ s q 1 = B 114 1 ∧ s q 2 = B 114 2 ∧
  (∀ c, 0 ≤ c → c < 16 → ¬ X c → s (q + 3) c = B 121 c) ∧
  (∀ c d, 0 ≤ c → c < 16 → 0 ≤ d → d < 4 → ¬ X c → s (q + 5) (4 * c + d) = kd B c d) ∧
  (∀ c d, 0 ≤ c → c < 16 → 0 ≤ d → d < 4 → s (q + 6) (4 * c + d) = nb B c d) ∧
  (∀ j, 0 ≤ j → j < 4 * B 114 2 → s (q + 4) j = B 115 j) ∧
  (∀ c, 0 ≤ c → c < 16 → ¬ X c → B 121 c ≠ -1 → s (q + 1) (B 121 c) = c ∧ s (q + 2) (B 121 c) = B 117 (B 121 c))
theorem FRx_c {X : Int → Prop} {s B : iv_M} {q : Nat} (h : FRx X s q B) (hX : ∀ c, 0 ≤ c → c < 16 → ¬ X c) : FRc s q B := by
  obtain ⟨f0, f1, f2, f3, f4, f5, f6, f7⟩ := h
  exact ⟨f0, f1, f2, fun c c0 c1 => f3 c c0 c1 (hX c c0 c1), fun c d c0 c1 d0 d1 => f4 c d c0 c1 d0 d1 (hX c c0 c1), f5, f6, fun c c0 c1 => f7 c c0 c1 (hX c c0 c1)⟩
theorem kd_ext {B B' : iv_M} {c d : Int} (h1 : B' 121 c = B 121 c) (h2 : B 121 c ≠ -1 → B' 117 (B 121 c) = B 117 (B 121 c)) (h3 : ∀ j, B' 115 j = B 115 j) : kd B' c d = kd B c d := by
  unfold kd sd
  rw [h1]
  by_cases e : B 121 c = -1
  · rw [if_pos e, if_pos e]
  · rw [if_neg e, if_neg e, h2 e, h3]
theorem nb_ext {B B' : iv_M} (h0 : B' 114 0 = B 114 0) (h1 : B' 114 1 = B 114 1) (c d : Int) : nb B' c d = nb B c d := by
  unfold nb isC; rw [h0, h1]
/-- the same floor but for some cells -/
theorem FRc_x {X : Int → Prop} {s B B' : iv_M} {q : Nat} (h : FRc s q B) (h0 : B' 114 0 = B 114 0) (h1 : B' 114 1 = B 114 1) (h2 : B' 114 2 = B 114 2) (h3 : ∀ j, B' 115 j = B 115 j) (hX : ∀ c, 0 ≤ c → c < 16 → ¬ X c → B' 121 c = B 121 c ∧ (B 121 c ≠ -1 → B' 117 (B 121 c) = B 117 (B 121 c))) : FRx X s q B' := by
  obtain ⟨f0, f1, f2, f3, f4, f5, f6, f7⟩ := h
  refine ⟨by rw [f0, h0], by rw [f1, h1], by rw [f2, h2], fun c c0 c1 hx => ?_, fun c d c0 c1 d0 d1 hx => ?_, fun c d c0 c1 d0 d1 => ?_, fun j j0 j1 => ?_, fun c c0 c1 hx hn => ?_⟩
  · rw [f3 c c0 c1, (hX c c0 c1 hx).1]
  · rw [f4 c d c0 c1 d0 d1, kd_ext (hX c c0 c1 hx).1 (hX c c0 c1 hx).2 h3]
  · rw [f5 c d c0 c1 d0 d1, nb_ext h0 h1]
  · rw [f6 j j0 (by omega), h3]
  · obtain ⟨e1, e2⟩ := hX c c0 c1 hx
    rw [e1] at hn ⊢
    rw [e2 hn]
    exact f7 c c0 c1 hn
theorem put_fr {X : Int → Prop} {s B : iv_M} {q : Nat} {r c t : Int} (h : FRx X s q B) (hr : 0 ≤ r ∧ r < B 114 2) (hB : B 121 c = r) (hT : B 117 r = t) (hu : ∀ c', 0 ≤ c' → c' < 16 → ¬ X c' → c' ≠ c → B 121 c' ≠ r) (t0 : 0 ≤ t) (t1 : t < 4) : FRx (fun c' => X c' ∧ c' ≠ c) (putM s q r c t) q B := by
  obtain ⟨f0, f1, f2, f3, f4, f5, f6, f7⟩ := h
  refine ⟨by rw [pm_0 (by omega) (by omega), f0], by rw [pm_0 (by omega) (by omega), f1], by rw [pm_0 (by omega) (by omega), f2], fun c' c0 c1 hx => ?_, fun c' d c0 c1 d0 d1 hx => ?_, fun c' d c0 c1 d0 d1 => ?_, fun j j0 j1 => ?_, fun c' c0 c1 hx hn => ?_⟩
  · rw [pm_3]
    by_cases e : c' = c
    · rw [if_pos e, e, hB]
    · rw [if_neg e, f3 c' c0 c1 (fun z => hx ⟨z, e⟩)]
  · by_cases e : c' = c
    · rw [e, pm_5 d0 d1]
      unfold pmk kd sd
      rw [if_neg (by omega), hB, hT, f6 _ (by omega) (by omega)]
    · rw [pm_5n d0 d1 e, f4 c' d c0 c1 d0 d1 (fun z => hx ⟨z, e⟩)]
  · rw [pm_out (by omega), f5 c' d c0 c1 d0 d1]
  · rw [pm_out (by omega), f6 j j0 j1]
  · rw [pm_1, pm_2]
    by_cases e : c' = c
    · rw [e, hB, if_pos rfl, if_pos rfl, hT]; exact ⟨rfl, rfl⟩
    · have z := hu c' c0 c1 (fun z => hx ⟨z, e⟩) e
      rw [if_neg z, if_neg z]
      exact f7 c' c0 c1 (fun z => hx ⟨z, e⟩) hn
-- taking
def tkM (s : iv_M) (q : Nat) (c : Int) : iv_M := mu (mu (mu (mu (mu s (q + 3) c (-1)) (q + 5) (4 * c + 0) 3) (q + 5) (4 * c + 1) 3) (q + 5) (4 * c + 2) 3) (q + 5) (4 * c + 3) 3
theorem FX1_take_st {N q n : Nat} {s : iv_M} {c i : Int} {kx : iv_M → Option iv_M} (c0 : 0 ≤ c) (c1 : c < 16) (i0 : 0 ≤ i) (i1 : i < 4) : FX1_take_l16 N q c kx (n + 1) s i = FX1_take_l16 N q c kx n (mu s (q + 5) (4 * c + i) 3) (i + 1) := by
  rw [FX1_take_l16, if_neg (by omega)]
  simp (disch := omega) only [w32_id, wr_ok, Option.bind_some]
theorem FX1_take_ok {N q : Nat} {s : iv_M} {r c : Int} (hN : 10 ≤ N) (r0 : 0 ≤ r) (r1 : r < 12) (hc : s (q + 1) r = c) (c0 : 0 ≤ c) (c1 : c < 16) : FX1_take N s q r = some (tkM s q c) := by
  unfold FX1_take
  simp (disch := omega) only [rd_ok, Option.bind_some, hc, wr_ok]
  obtain ⟨M, rfl⟩ : ∃ M, N = M + 5 := ⟨N - 5, by omega⟩
  rw [FX1_take_st c0 c1 (by omega) (by omega), FX1_take_st c0 c1 (by omega) (by omega), FX1_take_st c0 c1 (by omega) (by omega), FX1_take_st c0 c1 (by omega) (by omega), FX1_take_l16, if_pos (by omega)]
  rfl
theorem tk_out {s : iv_M} {q a : Nat} {c i : Int} (h : a ≠ q + 3) (h5 : a ≠ q + 5) : tkM s q c a i = s a i := by
  unfold tkM; simp (disch := omega) only [mu_ne]
theorem tk_3 {s : iv_M} {q : Nat} {c i : Int} : tkM s q c (q + 3) i = if i = c then -1 else s (q + 3) i := by
  unfold tkM; simp (disch := omega) only [mu_ne]; unfold mu; simp
theorem tk_5 {s : iv_M} {q : Nat} {c d : Int} (d0 : 0 ≤ d) (d1 : d < 4) : tkM s q c (q + 5) (4 * c + d) = 3 := by
  unfold tkM
  rcases four d0 d1 with rfl | rfl | rfl | rfl <;> simp (disch := omega) only [mu_ne, mu_eq]
theorem tk_5n {s : iv_M} {q : Nat} {c c' d : Int} (d0 : 0 ≤ d) (d1 : d < 4) (h : c' ≠ c) : tkM s q c (q + 5) (4 * c' + d) = s (q + 5) (4 * c' + d) := by
  unfold tkM; simp (disch := omega) only [mu_ne]
theorem take_fr {X : Int → Prop} {s B : iv_M} {q : Nat} {c : Int} (h : FRx X s q B) (hB : B 121 c = -1) : FRx (fun c' => X c' ∧ c' ≠ c) (tkM s q c) q B := by
  obtain ⟨f0, f1, f2, f3, f4, f5, f6, f7⟩ := h
  refine ⟨by rw [tk_out (by omega) (by omega), f0], by rw [tk_out (by omega) (by omega), f1], by rw [tk_out (by omega) (by omega), f2], fun c' c0 c1 hx => ?_, fun c' d c0 c1 d0 d1 hx => ?_, fun c' d c0 c1 d0 d1 => ?_, fun j j0 j1 => ?_, fun c' c0 c1 hx hn => ?_⟩
  · rw [tk_3]
    by_cases e : c' = c
    · rw [if_pos e, e, hB]
    · rw [if_neg e, f3 c' c0 c1 (fun z => hx ⟨z, e⟩)]
  · by_cases e : c' = c
    · rw [e, tk_5 d0 d1]
      unfold kd
      rw [if_pos hB]
    · rw [tk_5n d0 d1 e, f4 c' d c0 c1 d0 d1 (fun z => hx ⟨z, e⟩)]
  · rw [tk_out (by omega) (by omega), f5 c' d c0 c1 d0 d1]
  · rw [tk_out (by omega) (by omega), f6 j j0 j1]
  · have e : c' ≠ c := fun e => hn (by rw [e, hB])
    rw [tk_out (by omega) (by omega), tk_out (by omega) (by omega)]
    exact f7 c' c0 c1 (fun z => hx ⟨z, e⟩) hn
