-- BEDS: the reference's rows of choices
def bKd : Nat → Nat
  | 0 => 0
  | d + 1 => 12 * (bKd d + 1) + 1
def bFr (s z : iv_M) : Prop := ∀ a, a ≠ 164 → a ≠ 165 → a ≠ 166 → a ≠ 167 → z a = s a
def bPr (z : iv_M) (pre : List Nat) : Prop := ∀ j : Nat, j < pre.length → pre.getD j 12 < 12 ∧ z 164 j = ((pre.getD j 12 : Nat) : Int)
theorem bfm_mono {G : Nat → List (List Nat)} {r : Nat} : ∀ d, (bfm G r).length ≤ (bfm G (r + d)).length := by
  intro d
  induction d with
  | zero => exact Nat.le_refl _
  | succ d ih =>
    show _ ≤ (bfm G (r + d) ++ G (r + d)).length
    rw [List.length_append]; omega
theorem getD_app1 {l : List Nat} {r j : Nat} (h : j < l.length) : (l ++ [r]).getD j 12 = l.getD j 12 := by
  rw [List.getD_eq_getElem?_getD, List.getD_eq_getElem?_getD, List.getElem?_append_left h]
theorem getD_app2 {l : List Nat} {r : Nat} : (l ++ [r]).getD l.length 12 = r := by
  rw [List.getD_eq_getElem?_getD, List.getElem?_append_right (Nat.le_refl _)]; simp
theorem bPr_snoc {z z' : iv_M} {pre : List Nat} {r : Nat} (h : bPr z pre) (hr : r < 12) (hz : ∀ j : Nat, j < pre.length → z' 164 j = z 164 j) (hr2 : z' 164 pre.length = (r : Int)) : bPr z' (pre ++ [r]) := fun j hj => by
  rw [List.length_append] at hj
  by_cases e : j = pre.length
  · rw [e, getD_app2]; exact ⟨hr, hr2⟩
  · have hj' : j < pre.length := by simp at hj; omega
    rw [getD_app1 hj', hz j hj']; exact h j hj'
theorem b97_last {N : Nat} {y : iv_M} {P c p r n : Int} {kb : iv_M → Int → Int → Option (Int × iv_M)} {kx : iv_M → Int → Option (Int × iv_M)} (p0 : 0 ≤ p) (p1 : p < 7) (hP : P = p + 1) (c0 : 0 ≤ c) (c1 : c + 1 < 2147483648) (h2 : y 114 2 = n) (hr : r ≠ n) : FX12_findsBeds_b97 N y 113 P c p r kb kx = ((FX12_notesBeds N (mu y 164 p r) 113 P (if c = 0 then 1 else 0)).bind fun s_4172 => kb s_4172 (c + 1) p) := by
  unfold FX12_findsBeds_b97 FX12_findsBeds_b144 FX12_findsBeds_b179
  simp only [Nat.reduceAdd]
  rw [wr_ok p0 p1, Option.bind_some, rd_ok (by omega) (by omega), Option.bind_some, mu_rw (show (114 : Nat) ≠ 164 by decide), h2, if_neg hr, w32_id (x := P - 1) (by omega) (by omega), if_pos (show p = P - 1 by omega), w32_id (x := c + 1) (by omega) (by omega)]
  by_cases q : c = 0
  · rw [if_pos (show c + 1 = 1 by omega), if_pos q]
  · rw [if_neg (show ¬ c + 1 = 1 by omega), if_neg q]
theorem b97_more {N : Nat} {y : iv_M} {P c p r n : Int} {kb : iv_M → Int → Int → Option (Int × iv_M)} {kx : iv_M → Int → Option (Int × iv_M)} (p0 : 0 ≤ p) (p1 : p + 1 < 7) (hP : p + 1 < P) (hP1 : P < 7) (h2 : y 114 2 = n) (hr : r ≠ n) : FX12_findsBeds_b97 N y 113 P c p r kb kx = kb (mu (mu (mu y 164 p r) 165 (p + 1) (bOr (y 165 p) (sl32 1 r))) 164 (p + 1) (-1)) c (p + 1) := by
  unfold FX12_findsBeds_b97 FX12_findsBeds_b179
  simp only [Nat.reduceAdd]
  rw [wr_ok p0 (by omega), Option.bind_some, rd_ok (by omega) (by omega), Option.bind_some, mu_rw (show (114 : Nat) ≠ 164 by decide), h2, if_neg hr, w32_id (x := P - 1) (by omega) (by omega), if_neg (show ¬ p = P - 1 by omega), rd_ok p0 (by omega), Option.bind_some, mu_rw (show (165 : Nat) ≠ 164 by decide), w32_id (x := p + 1) (by omega) (by omega), wr_ok (by omega) (by omega), Option.bind_some, wr_ok (by omega) (by omega), Option.bind_some]
theorem bed_lv {N P n : Nat} {s : iv_M} {may : Nat → Nat → Bool} {kx : iv_M → Int → Option (Int × iv_M)} (hN : 100 ≤ N) (hP : P ≤ 6) (hn : n ≤ 12) (h2 : s 114 2 = n) (hfit : ∀ p : Nat, p < P → bSt (s 163 p) (may p)) : ∀ (d p : Nat) (u : Nat → Bool) (pre : List Nat) (A : List (List Nat)) (c : Int) (z : iv_M), p + (d + 1) = P → pre.length = p → bPr z pre → z 164 p = -1 → bSt (z 165 p) u → bTb P c z A → A.length + (bas may n (d + 1) p u).length ≤ 3000000 → bFr s z → ∃ K z' c', K ≤ bKd (d + 1) ∧ (∀ f, FX12_findsBeds_l37 N 113 (P : Int) kx (f + K) z c (p : Int) = FX12_findsBeds_l37 N 113 (P : Int) kx f z' c' ((p : Int) - 1)) ∧ bTb P c' z' (A ++ (bas may n (d + 1) p u).map (fun l => pre ++ l)) ∧ bFr s z' ∧ ∀ j : Nat, j < p → z' 164 j = z 164 j ∧ z' 165 j = z 165 j := by
  intro d
  induction d with
  | zero =>
    intro p u pre A c z hp hpl hpr h4 h5 hT hlen hf
    obtain ⟨G, hG⟩ : ∃ G : Nat → List (List Nat), G = fun r => if bok may u p r = true then (bas may n 0 (p + 1) (bad u r)).map (fun l => r :: l) else [] := ⟨_, rfl⟩
    have hb : bas may n (0 + 1) p u = bfm G n := by rw [hG]; rfl
    rw [hb] at hlen ⊢
    have C : ∀ (e r : Nat) (y : iv_M) (c : Int), r + e = n → bPr y pre → bSt (y 165 p) u → bTb P c y (A ++ (bfm G r).map (fun l => pre ++ l)) → bFr s y → (∀ j : Nat, j < p → y 164 j = z 164 j ∧ y 165 j = z 165 j) → ∃ K z' c', K ≤ e * (bKd 0 + 1) ∧ (∀ f g, e < g → FX12_findsBeds_l51 N 113 (P : Int) c (p : Int) (fun (s_4152 : iv_M) (x4153_4 : Int) => (FX12_findsBeds_b97 N s_4152 113 (P : Int) c (p : Int) x4153_4 (FX12_findsBeds_l37 N 113 (P : Int) kx (f + K)) kx)) g y (r : Int) = FX12_findsBeds_l37 N 113 (P : Int) kx f z' c' ((p : Int) - 1)) ∧ bTb P c' z' (A ++ (bfm G n).map (fun l => pre ++ l)) ∧ bFr s z' ∧ ∀ j : Nat, j < p → z' 164 j = z 164 j ∧ z' 165 j = z 165 j := by
      intro e
      induction e with
      | zero =>
        intro r y c hr yp y5 yT yf yj
        have : r = n := by omega
        subst this
        refine ⟨0, mu y 164 (p : Int) (r : Int), c, Nat.zero_le _, fun f g hg => ?_, bTb_ext (mu_rw (by omega)) (mu_rw (by omega)) yT, fun a a1 a2 a3 a4 => by rw [mu_rw a1]; exact yf a a1 a2 a3 a4, fun j hj => by rw [mu_ne (by omega), mu_rw (by omega)]; exact yj j hj⟩
        obtain ⟨g', rfl⟩ : ∃ g', g = g' + 1 := ⟨g - 1, by omega⟩
        rw [FX12_findsBeds_l51]
        unfold FX12_findsBeds_b97 FX12_findsBeds_b179
        simp only [Nat.reduceAdd]
        rw [rd_ok (by omega) (by omega), Option.bind_some, yf 114 (by omega) (by omega) (by omega) (by omega), h2, if_pos (by omega), wr_ok (by omega) (by omega), Option.bind_some, rd_ok (by omega) (by omega), Option.bind_some, mu_rw (by omega), yf 114 (by omega) (by omega) (by omega) (by omega), h2, if_pos rfl, w32_id (by omega) (by omega)]
        rfl
      | succ e ihe =>
        intro r y c hr yp y5 yT yf yj
        have r12 : r < 12 := by omega
        have hlow := bfm_mono (G := G) (r := r) (n - r)
        rw [show r + (n - r) = n by omega] at hlow
        have hfx : y 163 p = s 163 p := by rw [yf 163 (by omega) (by omega) (by omega) (by omega)]
        have bu := y5.2.2 r r12
        have bf := (hfit p (by omega)).2.2 r r12
        have b01 : ∀ v : Int, bAn (sr32 v r) 1 = 0 ∨ bAn (sr32 v r) 1 = 1 := fun v => by rw [bAn_1]; omega
        have skip : bok may u p r = false → ∃ K z' c', K ≤ (e + 1) * (bKd 0 + 1) ∧ (∀ f g, e < g → FX12_findsBeds_l51 N 113 (P : Int) c (p : Int) (fun (s_4152 : iv_M) (x4153_4 : Int) => (FX12_findsBeds_b97 N s_4152 113 (P : Int) c (p : Int) x4153_4 (FX12_findsBeds_l37 N 113 (P : Int) kx (f + K)) kx)) g y ((r + 1 : Nat) : Int) = FX12_findsBeds_l37 N 113 (P : Int) kx f z' c' ((p : Int) - 1)) ∧ bTb P c' z' (A ++ (bfm G n).map (fun l => pre ++ l)) ∧ bFr s z' ∧ ∀ j : Nat, j < p → z' 164 j = z 164 j ∧ z' 165 j = z 165 j := fun hk => by
          have hGr : bfm G (r + 1) = bfm G r := by
            show bfm G r ++ G r = bfm G r
            rw [hG]
            show bfm _ r ++ (if bok may u p r = true then _ else []) = bfm _ r
            rw [hk, if_neg (by decide), List.append_nil]
          obtain ⟨K, z', c', k1, k2, k3⟩ := ihe (r + 1) y c (by omega) yp y5 (by rw [hGr]; exact yT) yf yj
          exact ⟨K, z', c', by rw [Nat.succ_mul]; omega, k2, k3⟩
        have start : ∀ f g, FX12_findsBeds_l51 N 113 (P : Int) c (p : Int) (fun (s_4152 : iv_M) (x4153_4 : Int) => (FX12_findsBeds_b97 N s_4152 113 (P : Int) c (p : Int) x4153_4 (FX12_findsBeds_l37 N 113 (P : Int) kx f) kx)) (g + 1) y (r : Int) = (if (bAn (sr32 (y 165 p) r) 1) = 1 then (FX12_findsBeds_l51 N 113 (P : Int) c (p : Int) (fun (s_4152 : iv_M) (x4153_4 : Int) => (FX12_findsBeds_b97 N s_4152 113 (P : Int) c (p : Int) x4153_4 (FX12_findsBeds_l37 N 113 (P : Int) kx f) kx)) g y ((r + 1 : Nat) : Int)) else (if (bAn (sr32 (s 163 p) r) 1) = 0 then (FX12_findsBeds_l51 N 113 (P : Int) c (p : Int) (fun (s_4152 : iv_M) (x4153_4 : Int) => (FX12_findsBeds_b97 N s_4152 113 (P : Int) c (p : Int) x4153_4 (FX12_findsBeds_l37 N 113 (P : Int) kx f) kx)) g y ((r + 1 : Nat) : Int)) else (FX12_findsBeds_b97 N y 113 (P : Int) c (p : Int) (r : Int) (FX12_findsBeds_l37 N 113 (P : Int) kx f) kx))) := fun f g => by
          rw [FX12_findsBeds_l51]
          unfold FX12_findsBeds_b91
          simp only [Nat.reduceAdd]
          rw [rd_ok (by omega) (by omega), Option.bind_some, yf 114 (by omega) (by omega) (by omega) (by omega), h2, if_neg (by omega), rd_ok (by omega) (by omega), Option.bind_some, rd_ok (by omega) (by omega), Option.bind_some, hfx, w32_id (by omega) (by omega)]
          rfl
        by_cases q1 : bAn (sr32 (y 165 p) r) 1 = 1
        · obtain ⟨K, z', c', k1, k2, k3⟩ := skip (by unfold bok; rw [bu.mp q1]; rfl)
          refine ⟨K, z', c', k1, fun f g hg => ?_, k3⟩
          obtain ⟨g', rfl⟩ : ∃ g', g = g' + 1 := ⟨g - 1, by omega⟩
          rw [start, if_pos q1]; exact k2 f g' (by omega)
        · by_cases q2 : bAn (sr32 (s 163 p) r) 1 = 0
          · obtain ⟨K, z', c', k1, k2, k3⟩ := skip (by
              unfold bok
              have : may p r = false := by
                cases h : may p r
                · rfl
                · have := bf.mpr h; omega
              rw [this, Bool.and_false])
            refine ⟨K, z', c', k1, fun f g hg => ?_, k3⟩
            obtain ⟨g', rfl⟩ : ∃ g', g = g' + 1 := ⟨g - 1, by omega⟩
            rw [start, if_neg q1, if_pos q2]; exact k2 f g' (by omega)
          · have hur : u r = false := by
              cases h : u r
              · rfl
              · exact absurd (bu.mpr h) q1
            have hmr : may p r = true := bf.mp (by rcases b01 (s 163 p) with w | w; exact absurd w q2; exact w)
            have hk : bok may u p r = true := by unfold bok; rw [hur, hmr]; rfl
            have hGr : bfm G (r + 1) = bfm G r ++ [[r]] := by
              show bfm G r ++ G r = _
              rw [hG]
              show bfm _ r ++ (if bok may u p r = true then _ else []) = _
              rw [if_pos hk]; rfl
            obtain ⟨y1, hy1⟩ : ∃ y1, y1 = mu y 164 (p : Int) (r : Int) := ⟨_, rfl⟩
            have o1 : ∀ a, a ≠ 164 → y1 a = y a := fun a ha => by rw [hy1, mu_rw ha]
            have c0 : 0 ≤ c ∧ c ≤ 3000000 := by
              have := yT.1
              rw [List.length_append, List.length_map] at this
              omega
            have hpr1 : bPr y1 (pre ++ [r]) := bPr_snoc yp r12 (fun j hj => by rw [hy1, mu_ne (by omega)]) (by rw [hy1, hpl, mu_eq])
            obtain ⟨y2, n1, n2, n3⟩ := notesBeds_ok (N := N) (P := P) (c := c) (z := y1) (A := A ++ (bfm G r).map (fun l => pre ++ l)) (l := pre ++ [r]) hN hP (by rw [List.length_append, List.length_map]; omega) (bTb_ext (o1 _ (by omega)) (o1 _ (by omega)) yT) (fun j hj => hpr1 j (by rw [List.length_append]; simp; omega)) (b := if c = 0 then 1 else 0) rfl
            have T2 : bTb P (c + 1) y2 (A ++ (bfm G (r + 1)).map (fun l => pre ++ l)) := by
              rw [hGr, List.map_append, ← List.append_assoc]; exact n2
            have oy2 : ∀ a, a ≠ 164 → a ≠ 166 → a ≠ 167 → y2 a = y a := fun a a1 a2 a3 => by rw [n3 a a2 a3, o1 a a1]
            have y24 : ∀ j : Nat, j ≠ p → y2 164 j = y 164 j := fun j hj => by rw [n3 164 (by omega) (by omega), hy1, mu_ne (by omega)]
            have y2p : y2 164 p = (r : Int) := by rw [n3 164 (by omega) (by omega), hy1, mu_eq]
            obtain ⟨K, z', c', k1, k2, k3⟩ := ihe (r + 1) y2 (c + 1) (by omega) (fun j hj => by rw [y24 j (by omega)]; exact yp j hj) (by rw [oy2 165 (by omega) (by omega) (by omega)]; exact y5) T2 (fun a a1 a2 a3 a4 => by rw [oy2 a a1 a3 a4]; exact yf a a1 a2 a3 a4) (fun j hj => by rw [y24 j (by omega), oy2 165 (by omega) (by omega) (by omega)]; exact yj j hj)
            refine ⟨K + 1, z', c', by rw [Nat.succ_mul]; omega, fun f g hg => ?_, k3⟩
            obtain ⟨g', rfl⟩ : ∃ g', g = g' + 1 := ⟨g - 1, by omega⟩
            rw [start, if_neg q1, if_neg q2]
            rw [b97_last (n := (n : Int)) (by omega) (by omega) (by omega) c0.1 (by omega) (by rw [yf 114 (by omega) (by omega) (by omega) (by omega)]; exact h2) (by omega), ← hy1, n1, Option.bind_some, show f + (K + 1) = (f + K) + 1 by omega, FX12_findsBeds_l37, if_neg (by omega)]
            simp only [Nat.reduceAdd]
            rw [rd_ok (by omega) (by omega), Option.bind_some, y2p, w32_id (by omega) (by omega)]
            exact k2 f N (by omega)
    obtain ⟨K, z', c', k1, k2, k3⟩ := C n 0 z c (by omega) hpr h5 (by show bTb P c z (A ++ []); rw [List.append_nil]; exact hT) hf (fun j hj => ⟨rfl, rfl⟩)
    refine ⟨K + 1, z', c', ?_, fun f => ?_, k3⟩
    · have : n * (bKd 0 + 1) ≤ 12 * (bKd 0 + 1) := Nat.mul_le_mul_right _ hn
      show K + 1 ≤ 12 * (bKd 0 + 1) + 1
      omega
    · rw [show f + (K + 1) = (f + K) + 1 by omega, FX12_findsBeds_l37, if_neg (by omega)]
      simp only [Nat.reduceAdd]
      rw [rd_ok (by omega) (by omega), Option.bind_some, h4]
      exact k2 f N (by omega)
  | succ d ihd =>
    intro p u pre A c z hp hpl hpr h4 h5 hT hlen hf
    obtain ⟨G, hG⟩ : ∃ G : Nat → List (List Nat), G = fun r => if bok may u p r = true then (bas may n (d + 1) (p + 1) (bad u r)).map (fun l => r :: l) else [] := ⟨_, rfl⟩
    have hb : bas may n (d + 1 + 1) p u = bfm G n := by rw [hG]; rfl
    rw [hb] at hlen ⊢
    have C : ∀ (e r : Nat) (y : iv_M) (c : Int), r + e = n → bPr y pre → bSt (y 165 p) u → bTb P c y (A ++ (bfm G r).map (fun l => pre ++ l)) → bFr s y → (∀ j : Nat, j < p → y 164 j = z 164 j ∧ y 165 j = z 165 j) → ∃ K z' c', K ≤ e * (bKd (d + 1) + 1) ∧ (∀ f g, e < g → FX12_findsBeds_l51 N 113 (P : Int) c (p : Int) (fun (s_4152 : iv_M) (x4153_4 : Int) => (FX12_findsBeds_b97 N s_4152 113 (P : Int) c (p : Int) x4153_4 (FX12_findsBeds_l37 N 113 (P : Int) kx (f + K)) kx)) g y (r : Int) = FX12_findsBeds_l37 N 113 (P : Int) kx f z' c' ((p : Int) - 1)) ∧ bTb P c' z' (A ++ (bfm G n).map (fun l => pre ++ l)) ∧ bFr s z' ∧ ∀ j : Nat, j < p → z' 164 j = z 164 j ∧ z' 165 j = z 165 j := by
      intro e
      induction e with
      | zero =>
        intro r y c hr yp y5 yT yf yj
        have : r = n := by omega
        subst this
        refine ⟨0, mu y 164 (p : Int) (r : Int), c, Nat.zero_le _, fun f g hg => ?_, bTb_ext (mu_rw (by omega)) (mu_rw (by omega)) yT, fun a a1 a2 a3 a4 => by rw [mu_rw a1]; exact yf a a1 a2 a3 a4, fun j hj => by rw [mu_ne (by omega), mu_rw (by omega)]; exact yj j hj⟩
        obtain ⟨g', rfl⟩ : ∃ g', g = g' + 1 := ⟨g - 1, by omega⟩
        rw [FX12_findsBeds_l51]
        unfold FX12_findsBeds_b97 FX12_findsBeds_b179
        simp only [Nat.reduceAdd]
        rw [rd_ok (by omega) (by omega), Option.bind_some, yf 114 (by omega) (by omega) (by omega) (by omega), h2, if_pos (by omega), wr_ok (by omega) (by omega), Option.bind_some, rd_ok (by omega) (by omega), Option.bind_some, mu_rw (by omega), yf 114 (by omega) (by omega) (by omega) (by omega), h2, if_pos rfl, w32_id (by omega) (by omega)]
        rfl
      | succ e ihe =>
        intro r y c hr yp y5 yT yf yj
        have r12 : r < 12 := by omega
        have hlow := bfm_mono (G := G) (r := r + 1) (n - (r + 1))
        rw [show r + 1 + (n - (r + 1)) = n by omega] at hlow
        have hfx : y 163 p = s 163 p := by rw [yf 163 (by omega) (by omega) (by omega) (by omega)]
        have bu := y5.2.2 r r12
        have bf := (hfit p (by omega)).2.2 r r12
        have b01 : ∀ v : Int, bAn (sr32 v r) 1 = 0 ∨ bAn (sr32 v r) 1 = 1 := fun v => by rw [bAn_1]; omega
        have skip : bok may u p r = false → ∃ K z' c', K ≤ (e + 1) * (bKd (d + 1) + 1) ∧ (∀ f g, e < g → FX12_findsBeds_l51 N 113 (P : Int) c (p : Int) (fun (s_4152 : iv_M) (x4153_4 : Int) => (FX12_findsBeds_b97 N s_4152 113 (P : Int) c (p : Int) x4153_4 (FX12_findsBeds_l37 N 113 (P : Int) kx (f + K)) kx)) g y ((r + 1 : Nat) : Int) = FX12_findsBeds_l37 N 113 (P : Int) kx f z' c' ((p : Int) - 1)) ∧ bTb P c' z' (A ++ (bfm G n).map (fun l => pre ++ l)) ∧ bFr s z' ∧ ∀ j : Nat, j < p → z' 164 j = z 164 j ∧ z' 165 j = z 165 j := fun hk => by
          have hGr : bfm G (r + 1) = bfm G r := by
            show bfm G r ++ G r = bfm G r
            rw [hG]
            show bfm _ r ++ (if bok may u p r = true then _ else []) = bfm _ r
            rw [hk, if_neg (by decide), List.append_nil]
          obtain ⟨K, z', c', k1, k2, k3⟩ := ihe (r + 1) y c (by omega) yp y5 (by rw [hGr]; exact yT) yf yj
          exact ⟨K, z', c', by rw [Nat.succ_mul]; omega, k2, k3⟩
        have start : ∀ f g, FX12_findsBeds_l51 N 113 (P : Int) c (p : Int) (fun (s_4152 : iv_M) (x4153_4 : Int) => (FX12_findsBeds_b97 N s_4152 113 (P : Int) c (p : Int) x4153_4 (FX12_findsBeds_l37 N 113 (P : Int) kx f) kx)) (g + 1) y (r : Int) = (if (bAn (sr32 (y 165 p) r) 1) = 1 then (FX12_findsBeds_l51 N 113 (P : Int) c (p : Int) (fun (s_4152 : iv_M) (x4153_4 : Int) => (FX12_findsBeds_b97 N s_4152 113 (P : Int) c (p : Int) x4153_4 (FX12_findsBeds_l37 N 113 (P : Int) kx f) kx)) g y ((r + 1 : Nat) : Int)) else (if (bAn (sr32 (s 163 p) r) 1) = 0 then (FX12_findsBeds_l51 N 113 (P : Int) c (p : Int) (fun (s_4152 : iv_M) (x4153_4 : Int) => (FX12_findsBeds_b97 N s_4152 113 (P : Int) c (p : Int) x4153_4 (FX12_findsBeds_l37 N 113 (P : Int) kx f) kx)) g y ((r + 1 : Nat) : Int)) else (FX12_findsBeds_b97 N y 113 (P : Int) c (p : Int) (r : Int) (FX12_findsBeds_l37 N 113 (P : Int) kx f) kx))) := fun f g => by
          rw [FX12_findsBeds_l51]
          unfold FX12_findsBeds_b91
          simp only [Nat.reduceAdd]
          rw [rd_ok (by omega) (by omega), Option.bind_some, yf 114 (by omega) (by omega) (by omega) (by omega), h2, if_neg (by omega), rd_ok (by omega) (by omega), Option.bind_some, rd_ok (by omega) (by omega), Option.bind_some, hfx, w32_id (by omega) (by omega)]
          rfl
        by_cases q1 : bAn (sr32 (y 165 p) r) 1 = 1
        · obtain ⟨K, z', c', k1, k2, k3⟩ := skip (by unfold bok; rw [bu.mp q1]; rfl)
          refine ⟨K, z', c', k1, fun f g hg => ?_, k3⟩
          obtain ⟨g', rfl⟩ : ∃ g', g = g' + 1 := ⟨g - 1, by omega⟩
          rw [start, if_pos q1]; exact k2 f g' (by omega)
        · by_cases q2 : bAn (sr32 (s 163 p) r) 1 = 0
          · obtain ⟨K, z', c', k1, k2, k3⟩ := skip (by
              unfold bok
              have : may p r = false := by
                cases h : may p r
                · rfl
                · have := bf.mpr h; omega
              rw [this, Bool.and_false])
            refine ⟨K, z', c', k1, fun f g hg => ?_, k3⟩
            obtain ⟨g', rfl⟩ : ∃ g', g = g' + 1 := ⟨g - 1, by omega⟩
            rw [start, if_neg q1, if_pos q2]; exact k2 f g' (by omega)
          · have hur : u r = false := by
              cases h : u r
              · rfl
              · exact absurd (bu.mpr h) q1
            have hmr : may p r = true := bf.mp (by rcases b01 (s 163 p) with w | w; exact absurd w q2; exact w)
            have hk : bok may u p r = true := by unfold bok; rw [hur, hmr]; rfl
            have hGr : bfm G (r + 1) = bfm G r ++ (bas may n (d + 1) (p + 1) (bad u r)).map (fun l => r :: l) := by
              show bfm G r ++ G r = _
              rw [hG]
              show bfm _ r ++ (if bok may u p r = true then _ else []) = _
              rw [if_pos hk]
            have hGl : (bfm G (r + 1)).length = (bfm G r).length + (bas may n (d + 1) (p + 1) (bad u r)).length := by rw [hGr, List.length_append, List.length_map]
            obtain ⟨y1, hy1⟩ : ∃ y1, y1 = mu y 164 (p : Int) (r : Int) := ⟨_, rfl⟩
            obtain ⟨y3, hy3⟩ : ∃ y3, y3 = mu (mu y1 165 ((p : Int) + 1) (bOr (y 165 p) (sl32 1 r))) 164 ((p : Int) + 1) (-1) := ⟨_, rfl⟩
            have o3 : ∀ a, a ≠ 164 → a ≠ 165 → y3 a = y a := fun a a1 a2 => by rw [hy3, mu_rw a1, mu_rw a2, hy1, mu_rw a1]
            have v4 : ∀ j : Nat, j < p → y3 164 j = y 164 j ∧ y3 165 j = y 165 j := fun j hj => by
              rw [hy3, hy1]
              constructor
              · rw [mu_ne (by omega), mu_ne (by omega), mu_ne (by omega)]
              · rw [mu_rw (by omega), mu_ne (by omega), mu_rw (by omega)]
            have v4p : y3 164 p = (r : Int) := by rw [hy3, mu_ne (by omega), mu_rw (by omega), hy1, mu_eq]
            have v5p : y3 165 p = y 165 p := by rw [hy3, mu_rw (by omega), mu_ne (by omega), hy1, mu_rw (by omega)]
            have e1 : (p : Int) + 1 = ((p + 1 : Nat) : Int) := by omega
            have v4n : y3 164 ((p + 1 : Nat) : Int) = -1 := by rw [← e1, hy3, mu_eq]
            have v5n : y3 165 ((p + 1 : Nat) : Int) = bOr (y 165 p) (sl32 1 r) := by rw [← e1, hy3, mu_rw (by omega), mu_eq]
            have hpr3 : bPr y3 (pre ++ [r]) := bPr_snoc yp r12 (fun j hj => (v4 j (by omega)).1) (by rw [hpl]; exact v4p)
            obtain ⟨K1, z4, c4, m1, m2, m3, m4, m5⟩ := ihd (p + 1) (bad u r) (pre ++ [r]) (A ++ (bfm G r).map (fun l => pre ++ l)) c y3 (by omega) (by rw [List.length_append]; simp; exact hpl) hpr3 v4n (by rw [v5n]; exact bSt_or y5 r12) (bTb_ext (o3 _ (by omega) (by omega)) (o3 _ (by omega) (by omega)) yT) (by rw [List.length_append, List.length_map]; omega) (fun a a1 a2 a3 a4 => by rw [o3 a a1 a2]; exact yf a a1 a2 a3 a4)
            have T4 : bTb P c4 z4 (A ++ (bfm G (r + 1)).map (fun l => pre ++ l)) := by
              rw [hGr, List.map_append, List.map_map, ← List.append_assoc]
              have : ((fun l => pre ++ l) ∘ fun l => r :: l) = fun l => (pre ++ [r]) ++ l := by funext l; show pre ++ (r :: l) = _; rw [List.append_assoc]; rfl
              rw [this]; exact m3
            have w4 : ∀ j : Nat, j < p → z4 164 j = y 164 j ∧ z4 165 j = y 165 j := fun j hj => by rw [(m5 j (by omega)).1, (m5 j (by omega)).2]; exact v4 j hj
            obtain ⟨K, z', c', k1, k2, k3⟩ := ihe (r + 1) z4 c4 (by omega) (fun j hj => by rw [(w4 j (by omega)).1]; exact yp j hj) (by rw [(m5 p (by omega)).2, v5p]; exact y5) T4 m4 (fun j hj => by rw [(w4 j hj).1, (w4 j hj).2]; exact yj j hj)
            refine ⟨K + 1 + K1, z', c', by rw [Nat.succ_mul]; omega, fun f g hg => ?_, k3⟩
            obtain ⟨g', rfl⟩ : ∃ g', g = g' + 1 := ⟨g - 1, by omega⟩
            rw [start, if_neg q1, if_neg q2]
            rw [b97_more (n := (n : Int)) (by omega) (by omega) (by omega) (by omega) (by rw [yf 114 (by omega) (by omega) (by omega) (by omega)]; exact h2) (by omega), ← hy1, ← hy3, e1, show f + (K + 1 + K1) = (f + K + 1) + K1 by omega, m2, show ((p + 1 : Nat) : Int) - 1 = (p : Int) by omega, FX12_findsBeds_l37, if_neg (by omega)]
            simp only [Nat.reduceAdd]
            rw [rd_ok (by omega) (by omega), Option.bind_some, (m5 p (by omega)).1, v4p, w32_id (by omega) (by omega)]
            exact k2 f N (by omega)
    obtain ⟨K, z', c', k1, k2, k3⟩ := C n 0 z c (by omega) hpr h5 (by show bTb P c z (A ++ []); rw [List.append_nil]; exact hT) hf (fun j hj => ⟨rfl, rfl⟩)
    refine ⟨K + 1, z', c', ?_, fun f => ?_, k3⟩
    · have : n * (bKd (d + 1) + 1) ≤ 12 * (bKd (d + 1) + 1) := Nat.mul_le_mul_right _ hn
      show K + 1 ≤ 12 * (bKd (d + 1) + 1) + 1
      omega
    · rw [show f + (K + 1) = (f + K) + 1 by omega, FX12_findsBeds_l37, if_neg (by omega)]
      simp only [Nat.reduceAdd]
      rw [rd_ok (by omega) (by omega), Option.bind_some, h4]
      exact k2 f N (by omega)
