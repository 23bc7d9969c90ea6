-- RULE: sums and facts
theorem sum_st {N f : Nat} {r : iv_M} {b : Int → Int} {L p : Int} {kx : iv_M → Option iv_M} (hR : RT r b L p 0) (hT : TX b L) (p0 : 0 ≤ p) (p1 : p ≤ L) (hm : ¬ mul6 (ark (sg b L p))) : (ark (sg b L p) ≠ 0 → FX12_sum_l4 N 113 kx (f + 1) r = ((FX12_term N (rtM r (p + 1) 0) 113).bind fun s_2567 => ((FX12_entry N s_2567 113 (ark (sg b L p)) 0).bind fun s_2569 => FX12_sum_l4 N 113 kx f s_2569))) ∧ (ark (sg b L p) = 0 → FX12_sum_l4 N 113 kx (f + 1) r = kx r) := by
  have hL := hT.2.1
  rw [FX12_sum_l4, hR.2.2.1, if_pos rfl, sign_ok hR hT p0, Option.bind_some, Option.bind_some]
  unfold FX12_sum_b29 FX12_sum_b43
  rw [sign_ok hR hT p0, Option.bind_some, pt_ok, Option.bind_some, Option.bind_some, hR.2.1, w32_id (by omega) (by omega), rtM_mu hR]
  refine ⟨fun h => ?_, fun h => ?_⟩
  · rcases ark_sum h hm with ⟨u, v⟩ | ⟨u, v⟩
    · rw [v, if_pos u, if_pos u]
    · rw [v, if_neg (by omega), if_pos u, if_neg (by omega)]
  · have n1 : ¬ sg b L p = 43 := fun z => by rw [z] at h; exact absurd h (by decide)
    have n2 : ¬ sg b L p = 45 := fun z => by rw [z] at h; exact absurd h (by decide)
    rw [if_neg n1, if_neg n2]
theorem sum_tail_bad {N f : Nat} {r : iv_M} {b : Int → Int} {L p ft k : Int} (hf : ft ≠ 0) (hR : RT r b L p ft) (p0 : 0 ≤ p) (p1 : p ≤ 402) : ∃ r', ((FX12_entry N r 113 k 0).bind fun s_2569 => FX12_sum_l4 N 113 (fun (s_2553 : iv_M) => (FX12_sum_b67 N s_2553)) (f + 1) s_2569) = some r' ∧ Bad b L ft r r' := by
  refine ⟨r, ?_, FrH.refl, p, p0, p1, hR⟩
  rw [entry_bad (by rw [hR.2.2.1]; exact hf), Option.bind_some, FX12_sum_l4, if_neg (by rw [hR.2.2.1]; exact hf)]
  rfl
theorem sum_bad {N : Nat} {r : iv_M} {b : Int → Int} {L p ft : Int} (hN : 1000 ≤ N) (hf : ft ≠ 0) (hR : RT r b L p ft) (h37 : r 113 37 = 13) (hT : TX b L) (p0 : 0 ≤ p) (p1 : p ≤ 402) : ∃ r', FX12_sum N r 113 = some r' ∧ Bad b L ft r r' := by
  obtain ⟨r1, a1, a2⟩ := term_bad hN hf hR h37 hT p0 p1
  obtain ⟨y, y0, y1, y2⟩ := a2.2
  refine ⟨r1, ?_, a2⟩
  obtain ⟨f, hf'⟩ : ∃ f, N = f + 1 := ⟨N - 1, by omega⟩
  have st : ∀ F, F = f + 1 → FX12_sum_l4 N 113 (fun (s_2553 : iv_M) => (FX12_sum_b67 N s_2553)) F r1 = some r1 := fun F hF => by
    rw [hF, FX12_sum_l4, if_neg (by rw [y2.2.2.1]; exact hf)]; rfl
  unfold FX12_sum
  rw [a1, Option.bind_some]
  exact st N hf'
theorem sloop_sim {N : Nat} {kx : iv_M → Option (Int × iv_M)} {b : Int → Int} {L sl cl : Int} {s0 r0 : iv_M} {Pc Q : List (Int × Int)} {O : List Int} {stg cmp : Int} {Y : List Int} {ty : List Bool} (hC : JC N b L sl cl r0 Pc Q O) (hst : stg = if cmp = 0 then 3 else 4) (hlow : Low 5 (Y ++ O)) (hY : Y.length ≤ 1) (hO : O.length ≤ 40) : ∀ (m f : Nat) (c r : iv_M) (p x cnt : Int) (A : List (Int × Int)) (X : List Int), (L - p).toNat ≤ m → m + 1 < f → JS b L sl cl s0 r0 Pc Q O c r p (bl b L p) x stg cmp cnt A X Y (false :: ty) 0 → X.length ≤ 2 → (∀ k, k ∈ X → 5 ≤ rnk k) → ¬ mul6 (ark (sg b L (bl b L p))) → ∃ r', FX12_sum_l4 N 113 (fun (s_2553 : iv_M) => (FX12_sum_b67 N s_2553)) f r = some r' ∧ ((∃ c' p' x' cnt' A' X', CRun N kx c x c' x' ∧ p ≤ p' ∧ JS b L sl cl s0 r0 Pc Q O c' r' p' (bl b L p') x' stg cmp cnt' A' X' Y (false :: ty) 0 ∧ X'.length ≤ 2 ∧ (∀ k, k ∈ X' → 5 ≤ rnk k) ∧ ark (sg b L (bl b L p')) = 0) ∨ JF N kx b L sl s0 r0 c x r') := by
  intro m
  have hC' := hC
  obtain ⟨hN, hT, _, _, _, _, h37⟩ := hC'
  have hst34 : stg = 3 ∨ stg = 4 := by rw [hst]; split <;> omega
  induction m with
  | zero =>
    intro f c r p x cnt A X hm hf h hX hX5 hnm
    obtain ⟨f', rfl⟩ : ∃ f', f = f' + 1 := ⟨f - 1, by omega⟩
    have hh := h
    obtain ⟨_, ⟨hRT, _, _⟩, ⟨x0, x1, x2, x3, x4⟩, _⟩ := hh
    have nm : ark (sg b L (bl b L p)) = 0 := by
      have : sg b L (bl b L p) = -1 := by unfold sg; rw [if_neg (by omega)]
      rw [this]; decide
    refine ⟨r, (sum_st hRT hT (by omega) x3 hnm).2 nm, Or.inl ⟨c, p, x, cnt, A, X, CRun.refl, by omega, h, hX, hX5, nm⟩⟩
  | succ m ih =>
    intro f c r p x cnt A X hm hf h hX hX5 hnm
    obtain ⟨f', rfl⟩ : ∃ f', f = f' + 1 := ⟨f - 1, by omega⟩
    have hh := h
    obtain ⟨_, ⟨hRT, _, _⟩, ⟨x0, x1, x2, x3, x4⟩, _, _, _, _, hisK, _⟩ := hh
    by_cases z : ark (sg b L (bl b L p)) = 0
    · exact ⟨r, (sum_st hRT hT (by omega) x3 hnm).2 z, Or.inl ⟨c, p, x, cnt, A, X, CRun.refl, by omega, h, hX, hX5, z⟩⟩
    rw [(sum_st hRT hT (by omega) x3 hnm).1 z]
    obtain ⟨k, hk⟩ : ∃ k, k = ark (sg b L (bl b L p)) := ⟨_, rfl⟩
    have k23 : k = 2 ∨ k = 3 := by rcases ark_sum z hnm with u | u <;> omega
    have r5 : rnk k = 5 := by rcases k23 with u | u <;> rw [u] <;> decide
    obtain ⟨c1, e1, e2⟩ := arith_sim (N := N) (kx := kx) hC h rfl hst34 z ⟨fun j hj => ⟨hisK j (by rw [List.mem_append]; left; exact hj), by rw [← hk, r5]; exact hX5 j hj⟩, fun j hj => hisK j (by rw [List.mem_append]; right; exact hj), by rw [← hk, r5]; exact hlow⟩ (by omega) hO
    rw [← hk] at e2 ⊢
    obtain ⟨r1, v1, v2⟩ := term_sim (kx := kx) hC e2 (Or.inl rfl) (fun j ys hj => by
      have : k :: (Y ++ O) = j :: ys := hj
      injection this with u _
      rw [← u, r5]; omega) (by simp; omega) hO
    rw [v1, Option.bind_some]
    obtain ⟨f2, rfl⟩ : ∃ f2, f' = f2 + 1 := ⟨f' - 1, by omega⟩
    rcases v2 with ⟨c2, p2, x2', cnt2, A2, X2, w1, wp, w2, w3, w4, w5⟩ | w
    rotate_left
    · obtain ⟨r', g1, g2⟩ := JF_bad (G := fun z => ((FX12_entry N z 113 k 0).bind fun s_2569 => FX12_sum_l4 N 113 (fun (s_2553 : iv_M) => (FX12_sum_b67 N s_2553)) (f2 + 1) s_2569)) w h37 (fun F q f1 q0 q1 hq _ => sum_tail_bad (by omega) hq q0 q1)
      exact ⟨r', g1, Or.inr (JF_run e1 g2)⟩
    rw [if_neg (show ¬ (2 : Int) = 1 by decide), ← hst] at w2
    have tk : tye (k, 0) (false :: false :: ty) = some (false :: ty) := by
      rcases k23 with u | u <;> rw [u] <;> rfl
    obtain ⟨r2, d1, d2⟩ := shift_sim hC w2 tk
    rw [d1, Option.bind_some]
    have p2b : p < p2 := by omega
    obtain ⟨r', i1, i2⟩ := ih (f2 + 1) c2 r2 p2 x2' cnt2 A2 (X2 ++ [k]) (by omega) (by omega) d2 (by rw [List.length_append]; simp; omega) (fun j hj => by
      rw [List.mem_append, List.mem_singleton] at hj
      rcases hj with u | u
      · rw [mul6_rnk (w4 j u)]; omega
      · rw [u, r5]; omega) w5
    refine ⟨r', i1, ?_⟩
    rcases i2 with ⟨c', p', x', cnt', A', X', j1, j2, j3⟩ | w
    · exact Or.inl ⟨c', p', x', cnt', A', X', (e1.trans w1).trans j1, by omega, j3⟩
    · exact Or.inr (JF_run (e1.trans w1) w)
theorem sum_sim {N : Nat} {kx : iv_M → Option (Int × iv_M)} {b : Int → Int} {L sl cl : Int} {s0 r0 : iv_M} {Pc Q : List (Int × Int)} {O : List Int} {c r : iv_M} {p pr x stg cmp cnt : Int} {A : List (Int × Int)} {Y : List Int} {ty : List Bool} (hC : JC N b L sl cl r0 Pc Q O) (h : JS b L sl cl s0 r0 Pc Q O c r p pr x stg cmp cnt A [] Y ty 1) (hst : stg = 2 ∨ (stg = 1 ∧ sg b L (bl b L p) ≠ 91 ∧ isw b (bl b L p) (el b L (bl b L p)) wNot = false)) (hlow : Low 5 (Y ++ O)) (hY : Y.length ≤ 1) (hO : O.length ≤ 40) : ∃ r', FX12_sum N r 113 = some r' ∧ ((∃ c' p' x' cnt' A' X', CRun N kx c x c' x' ∧ p < p' ∧ JS b L sl cl s0 r0 Pc Q O c' r' p' (bl b L p') x' (if (if stg = 1 then 0 else cmp) = 0 then 3 else 4) (if stg = 1 then 0 else cmp) cnt' A' X' Y (false :: ty) 0 ∧ X'.length ≤ 2 ∧ (∀ k, k ∈ X' → 5 ≤ rnk k) ∧ ark (sg b L (bl b L p')) = 0) ∨ JF N kx b L sl s0 r0 c x r') := by
  have hC' := hC
  obtain ⟨hN, hT, _, _, _, _, h37⟩ := hC'
  have hL := hT.2.1
  obtain ⟨r1, v1, v2⟩ := term_sim (kx := kx) hC h hst (fun k ys hk => by have := hlow k ys hk; omega) (by omega) hO
  have hx := h.2.2.1
  unfold FX12_sum
  rw [v1, Option.bind_some]
  rcases v2 with ⟨c2, p2, x2, cnt2, A2, X2, w1, wp, w2, w3, w4, w5⟩ | w
  rotate_left
  · obtain ⟨f, hf'⟩ : ∃ f, N = f + 1 := ⟨N - 1, by omega⟩
    obtain ⟨r', g1, g2⟩ := JF_bad (G := fun z => FX12_sum_l4 N 113 (fun (s_2553 : iv_M) => (FX12_sum_b67 N s_2553)) N z) w h37 (fun F q f1 q0 q1 hq _ => by
      refine ⟨r1, ?_, FrH.refl, q, q0, q1, hq⟩
      have st : ∀ G, G = f + 1 → FX12_sum_l4 N 113 (fun (s_2553 : iv_M) => (FX12_sum_b67 N s_2553)) G r1 = some r1 := fun G hG => by
        rw [hG, FX12_sum_l4, if_neg (by rw [hq.2.2.1]; omega)]; rfl
      exact st N hf')
    exact ⟨r', g1, Or.inr g2⟩
  obtain ⟨r', i1, i2⟩ := sloop_sim (kx := kx) hC rfl hlow hY hO (L - p2).toNat N c2 r1 p2 x2 cnt2 A2 X2 (Nat.le_refl _) (by omega) w2 (by omega) (fun j hj => by rw [mul6_rnk (w4 j hj)]; omega) w5
  refine ⟨r', i1, ?_⟩
  rcases i2 with ⟨c', p', x', cnt', A', X', j1, j2, j3⟩ | w
  · exact Or.inl ⟨c', p', x', cnt', A', X', w1.trans j1, by omega, j3⟩
  · exact Or.inr (JF_run w1 w)
-- a fact
theorem cmp_rest {N : Nat} {r : iv_M} {b : Int → Int} {L p ft : Int} (hR : RT r b L p ft) (hT : TX b L) (p0 : 0 ≤ p) (p1 : p ≤ 402) : ((FX12_sign N r 113).bind fun v_2572 => (if v_2572 = 60 then (FX12_compared_b37 N r 113 v_2572) else (if v_2572 = 61 then (FX12_compared_b37 N r 113 v_2572) else (if v_2572 = 62 then (FX12_compared_b37 N r 113 v_2572) else ((FX12_fails N r 113 0 (r 113 29)).bind fun s_2578 => some s_2578))))) = if ck b L p = 0 then some (rtM r p (ffl ft p 0)) else ((FX12_isCounted N r 113 p).bind fun y => ((FX12_sum N (rtM y (p + cln b L p) (y 113 30)) 113).bind fun z => ((FX12_entry N z 113 (ck b L p) 0).bind fun s_2599 => some s_2599))) := by
  have hL := hT.2.1
  rw [sign_ok hR hT p0, Option.bind_some]
  by_cases g : ck b L p = 0
  · have hs := ck_0.mp g
    rw [if_pos g, if_neg (by omega), if_neg (by omega), if_neg (by omega), hR.2.1, fails_ok hR p0 (by omega) (by omega) (by omega), Option.bind_some]
  · have hs : sg b L p = 60 ∨ sg b L p = 61 ∨ sg b L p = 62 := by
      by_cases z : sg b L p = 60 ∨ sg b L p = 61 ∨ sg b L p = 62
      · exact z
      · exact absurd (ck_0.mpr z) g
    have pL : p < L := by
      by_cases z : p < L
      · exact z
      · have : sg b L p = -1 := by unfold sg; rw [if_neg z]
        omega
    have e : FX12_compared_b37 N r 113 (sg b L p) = ((FX12_isCounted N r 113 p).bind fun y => ((FX12_sum N (rtM y (p + cln b L p) (y 113 30)) 113).bind fun z => ((FX12_entry N z 113 (ck b L p) 0).bind fun s_2599 => some s_2599))) := by
      have ic := isCounted_ok (N := N) (x := p) hR p0 (by omega)
      obtain ⟨y, hy⟩ : ∃ y, y = mu (rtM r p (if r 113 35 = 60 then ffl ft p 3 else ft)) 113 35 (w32 (r 113 35 + 1)) := ⟨_, rfl⟩
      rw [← hy] at ic
      obtain ⟨F, hF⟩ : ∃ F, F = y 113 30 := ⟨_, rfl⟩
      have yR : RT y b L p F := by
        have : RT y b L p (if r 113 35 = 60 then ffl ft p 3 else ft) := by rw [hy]; exact RT_i (RT_M hR) (by omega) (by omega) (by omega)
        rw [hF, this.2.2.1]; exact this
      have yR1 : RT (rtM y (p + 1) F) b L (p + 1) F := RT_M yR
      unfold FX12_compared_b37 FX12_compared_b74 FX12_compared_b75 FX12_compared_b90 FX12_compared_b139
      rw [hR.2.1, ic, Option.bind_some, Option.bind_some, pt_ok, Option.bind_some, yR.2.1, w32_id (x := p + 1) (by omega) (by omega), rtM_mu yR, if_pos rfl, if_neg (show ¬ (1 : Int) = 0 by decide), sign_ok yR1 hT (by omega), Option.bind_some, pt_ok, Option.bind_some, pt_ok, Option.bind_some, yR1.2.1, w32_id (x := p + 1 + 0) (by omega) (by omega), w32_id (x := p + 1 + 1) (by omega) (by omega), rtM_mu yR1, rtM_mu yR1, rtM_rtM, rtM_rtM, ← hF]
      by_cases a1 : sg b L p = 61
      · have m1 : cln b L p = 1 := by unfold cln; rw [if_neg (by omega)]
        have k6 : ck b L p = 6 := by unfold ck; rw [if_neg (by omega), if_pos a1]
        rw [if_pos a1, m1, k6, show p + 1 + 0 = p + 1 by omega]
        simp only [if_pos a1]
      · rw [if_neg a1]
        by_cases a2 : sg b L (p + 1) = 61
        · have m2 : cln b L p = 2 := by unfold cln; rw [if_pos ⟨by omega, a2⟩]
          rw [if_pos a2, m2, show p + 1 + 1 = p + 2 by omega]
          by_cases a3 : sg b L p = 60
          · have k5 : ck b L p = 5 := by unfold ck; rw [if_pos a3, if_pos a2]
            simp only [if_neg a1, if_pos a3, k5, if_neg (show ¬ (1 : Int) = 0 by decide)]
          · have k7 : ck b L p = 7 := by unfold ck; rw [if_neg a3, if_neg a1, if_pos (by omega), if_pos a2]
            simp only [if_neg a1, if_neg a3, k7, if_neg (show ¬ (1 : Int) = 0 by decide)]
        · have m1 : cln b L p = 1 := by unfold cln; rw [if_neg (fun z => a2 z.2)]
          rw [if_neg a2, m1, show p + 1 + 0 = p + 1 by omega]
          by_cases a3 : sg b L p = 60
          · have k4 : ck b L p = 4 := by unfold ck; rw [if_pos a3, if_neg a2]
            simp only [if_neg a1, if_pos a3, k4, if_true]
          · have k8 : ck b L p = 8 := by unfold ck; rw [if_neg a3, if_neg a1, if_pos (by omega), if_neg a2]
            simp only [if_neg a1, if_neg a3, k8, if_true]
    rw [if_neg g, e]
    rcases hs with u | u | u
    · rw [if_pos u]
    · rw [if_neg (by omega), if_pos u]
    · rw [if_neg (by omega), if_neg (by omega), if_pos u]
theorem cmp_bad {N : Nat} {r : iv_M} {b : Int → Int} {L p ft : Int} (hN : 1000 ≤ N) (hf : ft ≠ 0) (hR : RT r b L p ft) (h37 : r 113 37 = 13) (hT : TX b L) (p0 : 0 ≤ p) (p1 : p ≤ 402) : ∃ r', ((FX12_sign N r 113).bind fun v_2572 => (if v_2572 = 60 then (FX12_compared_b37 N r 113 v_2572) else (if v_2572 = 61 then (FX12_compared_b37 N r 113 v_2572) else (if v_2572 = 62 then (FX12_compared_b37 N r 113 v_2572) else ((FX12_fails N r 113 0 (r 113 29)).bind fun s_2578 => some s_2578))))) = some r' ∧ Bad b L ft r r' := by
  have hL := hT.2.1
  rw [cmp_rest hR hT p0 p1, ffl_bad hf]
  by_cases g : ck b L p = 0
  · rw [if_pos g]
    exact ⟨_, rfl, FrH_rt hR, p, p0, p1, RT_M hR⟩
  · have pL : p < L := by
      by_cases z : p < L
      · exact z
      · exfalso; apply g
        have : sg b L p = -1 := by unfold sg; rw [if_neg z]
        exact ck_0.mpr (by omega)
    have m12 : cln b L p = 1 ∨ (cln b L p = 2 ∧ p + 1 < L) := by
      unfold cln
      by_cases u : (sg b L p = 60 ∨ sg b L p = 62) ∧ sg b L (p + 1) = 61
      · rw [if_pos u]; right
        refine ⟨rfl, ?_⟩
        by_cases z : p + 1 < L
        · exact z
        · have : sg b L (p + 1) = -1 := by unfold sg; rw [if_neg z]
          omega
      · rw [if_neg u]; left; rfl
    have fe : (if r 113 35 = 60 then ffl ft p 3 else ft) = ft := by rw [ffl_bad hf]; split <;> rfl
    rw [if_neg g, isCounted_ok hR p0 (by omega), fe, Option.bind_some]
    have R1 : RT (mu (rtM r p ft) 113 35 (w32 (r 113 35 + 1))) b L p ft := RT_i (RT_M hR) (by omega) (by omega) (by omega)
    rw [R1.2.2.1]
    have R2 := RT_M (p' := p + cln b L p) (ft' := ft) R1
    have f1 : FrH r (mu (rtM r p ft) 113 35 (w32 (r 113 35 + 1))) := FrH.trans (FrH_rt hR) ⟨fun a x => mu_rw x, fun i x y => mu_ne (by omega)⟩
    have f2 : FrH r (rtM (mu (rtM r p ft) 113 35 (w32 (r 113 35 + 1))) (p + cln b L p) ft) := f1.trans (FrH_rt R1)
    obtain ⟨r2, b1, b2⟩ := sum_bad (N := N) hN hf R2 (by rw [f2.2 37 (by omega) (by omega)]; exact h37) hT (by omega) (by omega)
    obtain ⟨y, y0, y1, y2⟩ := b2.2
    rw [b1, Option.bind_some, entry_bad (by rw [y2.2.2.1]; exact hf), Option.bind_some]
    exact ⟨r2, rfl, f2.trans b2.1, y, y0, y1, y2⟩
theorem compared_sim {N : Nat} {kx : iv_M → Option (Int × iv_M)} {b : Int → Int} {L sl cl : Int} {s0 r0 : iv_M} {Pc Q : List (Int × Int)} {O : List Int} {c r : iv_M} {p pr x cmp cnt : Int} {A : List (Int × Int)} {ty : List Bool} (hC : JC N b L sl cl r0 Pc Q O) (h : JS b L sl cl s0 r0 Pc Q O c r p pr x 1 cmp cnt A [] [] ty 1) (h91 : sg b L (bl b L p) ≠ 91) (hnt : isw b (bl b L p) (el b L (bl b L p)) wNot = false) (hlow : Low 4 O) (hO : O.length ≤ 40) : ∃ r', FX12_compared N r 113 = some r' ∧ ((∃ c' p' x' cnt' A' X', CRun N kx c x c' x' ∧ p < p' ∧ JS b L sl cl s0 r0 Pc Q O c' r' p' (bl b L p') x' 4 1 cnt' A' X' [] (true :: ty) 0 ∧ X'.length ≤ 3 ∧ (∀ k, k ∈ X' → 4 ≤ rnk k) ∧ ark (sg b L (bl b L p')) = 0) ∨ JF N kx b L sl s0 r0 c x r') := by
  have hC' := hC
  obtain ⟨hN, hT, _, _, _, _, h37⟩ := hC'
  have hL := hT.2.1
  obtain ⟨r1, v1, v2⟩ := sum_sim (kx := kx) hC h (Or.inr ⟨rfl, h91, hnt⟩) (fun k ys hk => by have := hlow k ys hk; omega) (by simp) hO
  unfold FX12_compared
  rw [v1, Option.bind_some]
  rcases v2 with ⟨c2, p2, x2, cnt2, A2, X2, w1, wp, w2, w3, w4, w5⟩ | w
  rotate_left
  · obtain ⟨r', g1, g2⟩ := JF_bad (G := fun z => ((FX12_sign N z 113).bind fun v_2572 => (if v_2572 = 60 then (FX12_compared_b37 N z 113 v_2572) else (if v_2572 = 61 then (FX12_compared_b37 N z 113 v_2572) else (if v_2572 = 62 then (FX12_compared_b37 N z 113 v_2572) else ((FX12_fails N z 113 0 (z 113 29)).bind fun s_2578 => some s_2578)))))) w h37 (fun F q f1 q0 q1 hq h37' => cmp_bad hN (by omega) hq h37' hT q0 q1)
    exact ⟨r', g1, Or.inr g2⟩
  rw [if_pos rfl, if_pos rfl] at w2
  obtain ⟨l1, l2⟩ := JS_len hC w2 (by omega)
  have ww := w2
  obtain ⟨⟨⟨fr, hR⟩, hK, hFc⟩, ⟨hRT, hRK, hFr⟩, ⟨y0, y1, y2, y3, y4⟩, hty, ⟨nt, t0, t1, t2⟩, hnv, ⟨c0, c1⟩, hisK, hw⟩ := ww
  obtain ⟨q, hq⟩ : ∃ q, q = bl b L p2 := ⟨_, rfl⟩
  rw [← hq] at hRT y2 y3 w5
  have qi : bl b L q = q := by rw [hq]; exact rnn_idem
  rw [cmp_rest hRT hT (by omega) (by omega)]
  have hR1 : RD (mu c2 58 2 q) 58 b L q fr 0 := RD_2 hR
  have e0 : ([] : List Int) ++ O = O := rfl
  rw [e0] at hK hisK
  have wl : X2.length + O.length ≤ 60 := by simp at hw; omega
  by_cases g : ck b L q = 0
  · -- no sign of a fact
    obtain ⟨c', z1, z2, z3⟩ := next_cmpbad (N := N) hT (by omega) y3 w5 g hR1 (CK_m (i := 2) (v := q) hK)
    have fv : ffl 0 q 0 = 1 + 8 * q + 0 := by unfold ffl; rw [if_pos rfl]
    rw [if_pos g]
    refine ⟨_, rfl, Or.inr (JF_run w1 ⟨ffl 0 q 0, by omega, by omega, ⟨2, c', by omega, fun n => c_fail hN hT (by omega) (by omega) y0 (by omega) hR (by rw [← hq]; exact z1) (Or.inr (by rw [z2]; omega)) n, z2, hFc.trans (FrC.trans (fun a u1 u2 u3 u4 => mu_rw u2) z3)⟩, hFr.trans FrR_rt, q, by omega, by omega, RT_M hRT⟩)⟩
  have kr : 4 ≤ ck b L q ∧ ck b L q ≤ 8 := by rcases ck_rg (b := b) (L := L) (p := q) with u | u; exact absurd u g; exact u
  have hKk : isK (ck b L q) := by unfold isK; omega
  have rk4 : rnk (ck b L q) = 4 := by unfold rnk; rw [if_neg (by omega), if_neg (by omega), if_neg (by omega), if_neg (by omega), if_pos kr]
  have hP : Prt 4 X2 O := ⟨fun j hj => ⟨hisK j (by rw [List.mem_append]; left; exact hj), by have := w4 j hj; omega⟩, fun j hj => hisK j (by rw [List.mem_append]; right; exact hj), hlow⟩
  have n9w := n9_nn (X2 ++ O)
  have n12w := n12_nn (X2 ++ O)
  have nx := n9_nn X2
  have wl2 : ((X2 ++ O).length : Int) ≤ 60 := by rw [List.length_append]; omega
  obtain ⟨c3, z1, z2, z3, z4⟩ := next_cmp (N := N) hN hT (by omega) y3 w5 g hP hR1 (CK_m (i := 2) (v := q) hK) (by omega) (by omega) (by omega) (by omega) c0 (by omega)
  have fc : FrC s0 c3 := hFc.trans (FrC.trans (fun a u1 u2 u3 u4 => mu_rw u2) z4)
  have h35 : r1 113 35 = cnt2 := hRK.2.2.2.2.1
  have pL : q < L := by
    by_cases z : q < L
    · exact z
    · exfalso; apply g
      have : sg b L q = -1 := by unfold sg; rw [if_neg z]
      exact ck_0.mpr (by omega)
  have m12 : (cln b L q = 1 ∨ cln b L q = 2) ∧ q + cln b L q ≤ L := by
    unfold cln
    by_cases u : (sg b L q = 60 ∨ sg b L q = 62) ∧ sg b L (q + 1) = 61
    · rw [if_pos u]
      refine ⟨Or.inr rfl, ?_⟩
      by_cases z : q + 1 < L
      · omega
      · have : sg b L (q + 1) = -1 := by unfold sg; rw [if_neg z]
        omega
    · rw [if_neg u]; exact ⟨Or.inl rfl, by omega⟩
  have fe : (if r1 113 35 = 60 then ffl 0 q 3 else 0) = cFt 0 cnt2 q := by
    rw [h35]; unfold cFt
    by_cases u : cnt2 = 60
    · rw [if_pos u, if_neg (by omega)]
    · rw [if_neg u, if_pos (by omega)]
  rw [if_neg g, isCounted_ok hRT (by omega) (by omega), fe, h35, Option.bind_some, w32_id (by omega) (by omega)]
  obtain ⟨F, hF⟩ : ∃ F, F = cFt 0 cnt2 q := ⟨_, rfl⟩
  rw [← hF] at z2 ⊢
  have R1 : RT (mu (rtM r1 q F) 113 35 (cnt2 + 1)) b L q F := RT_i (RT_M hRT) (by omega) (by omega) (by omega)
  have K1 : RK (mu (rtM r1 q F) 113 35 (cnt2 + 1)) sl (Q ++ (A2 ++ em X2)) O (n9 O + n12 O) (cnt2 + 1) := RK_cnt (RK_rt hRK)
  have f1 : FrR sl r1 (mu (rtM r1 q F) 113 35 (cnt2 + 1)) := FrR_rt.trans (FrR_m (by omega))
  rw [R1.2.2.1]
  have R2 := RT_M (p' := q + cln b L q) (ft' := F) R1
  have K2 : RK (rtM (mu (rtM r1 q F) 113 35 (cnt2 + 1)) (q + cln b L q) F) sl (Q ++ (A2 ++ em X2)) O (n9 O + n12 O) (cnt2 + 1) := RK_rt K1
  obtain ⟨r2, hr2⟩ : ∃ r2, r2 = rtM (mu (rtM r1 q F) 113 35 (cnt2 + 1)) (q + cln b L q) F := ⟨_, rfl⟩
  rw [← hr2] at R2 K2 ⊢
  have f2 : FrR sl r0 r2 := by rw [hr2]; exact (hFr.trans f1).trans FrR_rt
  by_cases z : F = 0
  rotate_left
  · -- too much is counted
    have fv : F = 1 + 8 * q + 3 := by
      rw [hF]; rw [hF] at z
      unfold cFt ffl at z ⊢
      by_cases u : cnt2 < 60
      · rw [if_pos u] at z; exact absurd rfl z
      · rw [if_neg u, if_pos rfl]
    have jf : JF N kx b L sl s0 r0 c2 x2 r2 := ⟨F, by omega, by omega, ⟨2, c3, by omega, fun n => c_fail hN hT (by omega) (by omega) y0 (by omega) hR (by rw [← hq]; exact z1) (Or.inr (by rw [z2.2.2.2.2.1]; exact z)) n, z2.2.2.2.2.1, fc⟩, f2, q + cln b L q, by omega, by omega, R2⟩
    obtain ⟨r', g1, g2⟩ := JF_bad (G := fun y => ((FX12_sum N y 113).bind fun z => ((FX12_entry N z 113 (ck b L q) 0).bind fun s_2599 => some s_2599))) jf h37 (fun G s f1 q0 q1 hq' h37' => by
      obtain ⟨r3, b1, b2⟩ := sum_bad (N := N) hN (by omega) hq' h37' hT q0 q1
      obtain ⟨v, v0, v1, v2⟩ := b2.2
      refine ⟨r3, ?_, b2⟩
      show ((FX12_sum N r2 113).bind fun z => ((FX12_entry N z 113 (ck b L q) 0).bind fun s_2599 => some s_2599)) = some r3
      rw [b1, Option.bind_some, entry_bad (by rw [v2.2.2.1]; omega), Option.bind_some])
    exact ⟨r', g1, Or.inr (JF_run w1 g2)⟩
  rw [z] at z2 R2
  have c60 : cnt2 < 60 := by
    by_cases u : cnt2 < 60
    · exact u
    · rw [z] at hF; unfold cFt at hF; rw [if_neg u] at hF
      exact absurd hF.symm (ffl_ne (by omega) (by omega))
  have x12 := Prt_12 hP (by omega)
  have k9 : ck b L q ≠ 9 := by omega
  have k12 : ck b L q ≠ 12 := by omega
  have d9 : n9 (ck b L q :: O) = n9 O := by show (if ck b L q = 9 then 1 else 0) + n9 O = _; rw [if_neg k9]; omega
  have d12 : n12 (ck b L q :: O) = n12 O := by show (if ck b L q = 12 then 1 else 0) + n12 O = _; rw [if_neg k12]; omega
  rw [n9_app, n12_app, x12] at z3
  have q1' : n9 X2 + n9 O + (0 + n12 O) - n9 X2 = n9 O + n12 O := by omega
  have q2' : 0 + n12 O = n12 O := by omega
  rw [q1', q2'] at z3
  have em0 : em [] = [] := rfl
  have run1 : CRun N kx c2 x2 c3 (x2 + 1) := ⟨1, by omega, fun n => c_step hN hT (by omega) (by omega) y0 (by omega) hR (by rw [← hq]; exact z1) z2.2.2.2.2.1 n⟩
  have J3 : JS b L sl cl s0 r0 Pc Q O c3 r2 (q + cln b L q) (q + cln b L q) (x2 + 1) 2 1 (cnt2 + 1) (A2 ++ em X2) [] [ck b L q] (false :: ty) 1 := by
    refine ⟨⟨⟨fr, z2⟩, ?_, fc⟩, ⟨R2, by rw [em0, List.append_nil]; exact K2, f2⟩, ⟨by omega, by omega, by omega, m12.2, rfl⟩, by rw [em0, List.append_nil]; exact hty, ⟨nt, t0, by omega, ?_⟩, ?_, ⟨by omega, by omega⟩, ?_, by simp; omega⟩
    · show CK c3 (Pc ++ (A2 ++ em X2)) (ck b L q :: O) 2 1 cl (n9 (ck b L q :: O) + n12 (ck b L q :: O)) (n12 (ck b L q :: O)) (cnt2 + 1)
      rw [d9, d12, ← List.append_assoc]; exact z3
    · rw [List.length_append, em_len]; simp at t2 ⊢; omega
    · rw [em0, List.append_nil]; omega
    · intro j hj
      have hj' : j ∈ ck b L q :: O := hj
      rw [List.mem_cons] at hj'
      rcases hj' with u | u
      · rw [u]; exact hKk
      · exact hisK j (by rw [List.mem_append]; right; exact u)
  obtain ⟨r3, s1, s2⟩ := sum_sim (kx := kx) hC J3 (Or.inl rfl) (fun j ys hj => by
    have : ck b L q :: O = j :: ys := hj
    injection this with u _
    rw [← u, rk4]; omega) (by simp) hO
  rw [s1, Option.bind_some]
  rcases s2 with ⟨c4, p4, x4, cnt4, A4, X4, i1, ip, i2, i3, i4, i5⟩ | w
  rotate_left
  · obtain ⟨r', g1, g2⟩ := JF_bad (G := fun z => ((FX12_entry N z 113 (ck b L q) 0).bind fun s_2599 => some s_2599)) w h37 (fun G s f1 q0 q1 hq' h37' => ⟨r3, by
        show ((FX12_entry N r3 113 (ck b L q) 0).bind fun s_2599 => some s_2599) = some r3
        rw [entry_bad (by rw [hq'.2.2.1]; omega), Option.bind_some], FrH.refl, s, q0, q1, hq'⟩)
    exact ⟨r', g1, Or.inr (JF_run (w1.trans run1) g2)⟩
  rw [if_neg (show ¬ (2 : Int) = 1 by decide), if_neg (show ¬ (1 : Int) = 0 by decide)] at i2
  have tk : tye (ck b L q, 0) (false :: false :: ty) = some (true :: ty) := by
    have : ck b L q = 4 ∨ ck b L q = 5 ∨ ck b L q = 6 ∨ ck b L q = 7 ∨ ck b L q = 8 := by omega
    rcases this with u | u | u | u | u <;> rw [u] <;> rfl
  obtain ⟨r4, j1, j2⟩ := shift_sim hC i2 tk
  rw [j1, Option.bind_some]
  refine ⟨r4, rfl, Or.inl ⟨c4, p4, x4, cnt4, A4, X4 ++ [ck b L q], (w1.trans run1).trans i1, by omega, j2, by rw [List.length_append]; simp; omega, fun j hj => ?_, i5⟩⟩
  rw [List.mem_append, List.mem_singleton] at hj
  rcases hj with u | u
  · have := i4 j u; omega
  · rw [u, rk4]; omega
