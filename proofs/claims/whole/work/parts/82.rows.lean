-- FLOORS KEPT AND LAID AGAIN by the reference; nights kept
def flF (s : iv_M) (q : Nat) (b n : Int) : iv_M := fun a i => if a = q ∧ b ≤ i ∧ i < b + 2 * n then (if (i - b) % 2 = 0 then s 116 ((i - b) / 2) else s 117 ((i - b) / 2)) else s a i
theorem FX12_fillsFloor_ok {N q : Nat} {s : iv_M} {b m : Int} (hN : 100 ≤ N) (hq : q ≠ 116 ∧ q ≠ 117) (hm : ((sh q).2 : Int) = m) (b0 : 0 ≤ b) (b1 : b + 24 ≤ m) : FX12_fillsFloor N s 113 q b = some (flF s q b 12) := by
  have hb := sh_le q
  unfold FX12_fillsFloor
  have h0 : s = flF s q b ((0 : Nat) : Int) := by
    funext a i; unfold flF; rw [if_neg (by omega)]
  have := loop_fn (L := FX12_fillsFloor_l2 N 113 q b (fun s2 => some s2)) (k := fun s2 => some s2) (hi := 12) (N := N) (fun i => flF s q b (i : Int)) (by omega) (fun n => by rw [FX12_fillsFloor_l2, if_pos (by omega)]) (fun n i hi => by
    rw [FX12_fillsFloor_l2, if_neg (by omega)]
    simp only [Nat.reduceAdd]
    have e6 : flF s q b (i : Int) 116 i = s 116 i := by unfold flF; rw [if_neg (by omega)]
    have e7 : flF s q b (i : Int) 117 i = s 117 i := by unfold flF; rw [if_neg (by omega)]
    rw [rd_ok (by omega) (by omega), Option.bind_some, hm, w32_id (x := 2 * (i : Int)) (by omega) (by omega), w32_id (x := b + 2 * (i : Int)) (by omega) (by omega), wr_ok (by omega) (by omega), Option.bind_some, rd_ok (by omega) (by omega), Option.bind_some, w32_id (x := b + 2 * (i : Int) + 1) (by omega) (by omega), wr_ok (by omega) (by omega), Option.bind_some, w32_id (by omega) (by omega), mu_ne (by omega), e6, e7]
    congr 1
    funext a j
    show mu (mu (flF s q b (i : Int)) q (b + 2 * (i : Int)) (s 116 i)) q (b + 2 * (i : Int) + 1) (s 117 i) a j = flF s q b ((i + 1 : Nat) : Int) a j
    unfold mu flF
    by_cases c1 : a = q ∧ j = b + 2 * (i : Int) + 1
    · rw [if_pos c1, if_pos (by omega), if_neg (by omega), show (j - b) / 2 = (i : Int) by omega]
    · rw [if_neg c1]
      by_cases c2 : a = q ∧ j = b + 2 * (i : Int)
      · rw [if_pos c2, if_pos (by omega), if_pos (by omega), show (j - b) / 2 = (i : Int) by omega]
      · rw [if_neg c2]
        by_cases c3 : a = q ∧ b ≤ j ∧ j < b + 2 * (i : Int)
        · rw [if_pos c3, if_pos (show a = q ∧ b ≤ j ∧ j < b + 2 * ((i + 1 : Nat) : Int) by omega)]
        · rw [if_neg c3, if_neg (by omega)]) (by omega)
  have e : FX12_fillsFloor_l2 N 113 q b (fun s2 => some s2) N (flF s q b ((0 : Nat) : Int)) 0 = some (flF s q b 12) := this
  rw [← h0] at e
  exact e
theorem flF_o {s : iv_M} {q a : Nat} {b n : Int} (h : a ≠ q) : flF s q b n a = s a := by
  funext i; unfold flF; rw [if_neg (fun z => h z.1)]
theorem flF_c {s : iv_M} {q : Nat} {b r : Int} (r0 : 0 ≤ r) (r1 : r < 12) : flF s q b 12 q (b + 2 * r) = s 116 r ∧ flF s q b 12 q (b + 2 * r + 1) = s 117 r := by
  unfold flF
  refine ⟨?_, ?_⟩
  · rw [if_pos (by omega), if_pos (by omega), show (b + 2 * r - b) / 2 = r by omega]
  · rw [if_pos (by omega), if_neg (by omega), show (b + 2 * r + 1 - b) / 2 = r by omega]
-- laid again
def lyP (s : iv_M) (f g : Int → Int) (n : Nat) : iv_M := fun a i => if a = 116 ∧ 0 ≤ i ∧ i < n then f i else if a = 117 ∧ 0 ≤ i ∧ i < n then g i else if a = 121 ∧ 0 ≤ i ∧ i < 16 then invf f i n else s a i
theorem lyP_lay {s : iv_M} {f g : Int → Int} (h0 : 0 ≤ s 114 2) : lyP s f g (s 114 2).toNat = lay s f g := by
  funext a i; unfold lyP lay; rw [Int.toNat_of_nonneg h0]
theorem FX12_laysFloor_ok {N q : Nat} {s : iv_M} {b m : Int} (hN : 100 ≤ N) (hq : (q < 114 ∨ 121 < q)) (hm : ((sh q).2 : Int) = m) (b0 : 0 ≤ b) (b1 : b + 24 ≤ m) (h0 : 0 ≤ s 114 2) (h1 : s 114 2 ≤ 12) (hf : ∀ r, 0 ≤ r → r < s 114 2 → 0 ≤ s q (b + 2 * r) ∧ s q (b + 2 * r) < 16) : FX12_laysFloor N s 113 q b = some (lay s (fun r => s q (b + 2 * r)) (fun r => s q (b + 2 * r + 1))) := by
  have hb := sh_le q
  unfold FX12_laysFloor
  have hs0 : s = flM s 121 ((0 : Nat) : Int) (-1) := by funext a i; unfold flM; rw [if_neg (by omega)]
  have l1 := fun kx => loop_fn (L := FX12_laysFloor_l2 N 113 q b kx) (k := kx) (hi := 16) (N := N) (fun i => flM s 121 (i : Int) (-1)) (by omega) (fun n => by rw [FX12_laysFloor_l2, if_pos (by omega)]) (fun n i hi => by
    rw [FX12_laysFloor_l2, if_neg (by omega)]
    simp only [Nat.reduceAdd]
    rw [wr_ok (by omega) (by omega), Option.bind_some, w32_id (by omega) (by omega)]
    congr 1
    funext a j
    show mu (flM s 121 (i : Int) (-1)) 121 i (-1) a j = flM s 121 ((i + 1 : Nat) : Int) (-1) a j
    unfold mu flM
    by_cases c1 : a = 121 ∧ j = (i : Int)
    · rw [if_pos c1, if_pos (by omega)]
    · rw [if_neg c1]
      by_cases c2 : a = 121 ∧ 0 ≤ j ∧ j < (i : Int)
      · rw [if_pos c2, if_pos (by omega)]
      · rw [if_neg c2, if_neg (by omega)]) (by omega)
  have e1 : ∀ kx, FX12_laysFloor_l2 N 113 q b kx N s 0 = kx (flM s 121 16 (-1)) := fun kx => by
    have := l1 kx
    have e : FX12_laysFloor_l2 N 113 q b kx N (flM s 121 ((0 : Nat) : Int) (-1)) 0 = kx (flM s 121 16 (-1)) := this
    rw [← hs0] at e
    exact e
  rw [e1]
  have hs1 : flM s 121 16 (-1) = lyP s (fun r => s q (b + 2 * r)) (fun r => s q (b + 2 * r + 1)) 0 := by
    funext a i; unfold flM lyP
    rw [if_neg (show ¬ (a = 116 ∧ 0 ≤ i ∧ i < ((0 : Nat) : Int)) by omega), if_neg (show ¬ (a = 117 ∧ 0 ≤ i ∧ i < ((0 : Nat) : Int)) by omega)]
    rfl
  rw [hs1, ← lyP_lay h0]
  have l2 := loop_fn (L := FX12_laysFloor_l23 N 113 q b (fun s2 => some s2)) (k := fun s2 => some s2) (hi := s 114 2) (N := N) (fun i => lyP s (fun r => s q (b + 2 * r)) (fun r => s q (b + 2 * r + 1)) i) h0 (fun n => by
      rw [FX12_laysFloor_l23]
      simp only [Nat.reduceAdd]
      have e : lyP s (fun r => s q (b + 2 * r)) (fun r => s q (b + 2 * r + 1)) (s 114 2).toNat 114 2 = s 114 2 := by unfold lyP; rw [if_neg (by omega), if_neg (by omega), if_neg (by omega)]
      rw [rd_ok (by omega) (by omega), Option.bind_some, e, if_pos (by omega)]) (fun n i hi => by
    obtain ⟨x, hx⟩ : ∃ x, x = lyP s (fun r => s q (b + 2 * r)) (fun r => s q (b + 2 * r + 1)) i := ⟨_, rfl⟩
    have xo : ∀ a j, a ≠ 116 → a ≠ 117 → a ≠ 121 → x a j = s a j := fun a j z1 z2 z3 => by rw [hx]; unfold lyP; rw [if_neg (by omega), if_neg (by omega), if_neg (by omega)]
    show FX12_laysFloor_l23 N 113 q b (fun s2 => some s2) (n + 1) (lyP s (fun r => s q (b + 2 * r)) (fun r => s q (b + 2 * r + 1)) i) i = FX12_laysFloor_l23 N 113 q b (fun s2 => some s2) n (lyP s (fun r => s q (b + 2 * r)) (fun r => s q (b + 2 * r + 1)) (i + 1)) ((i : Int) + 1)
    rw [← hx, FX12_laysFloor_l23]
    simp only [Nat.reduceAdd]
    obtain ⟨v0, v1⟩ := hf i (by omega) hi
    rw [rd_ok (by omega) (by omega), Option.bind_some, xo 114 2 (by omega) (by omega) (by omega), if_neg (by omega), hm, w32_id (x := 2 * (i : Int)) (by omega) (by omega), w32_id (x := b + 2 * (i : Int)) (by omega) (by omega), rd_ok (by omega) (by omega), Option.bind_some, wr_ok (by omega) (by omega), Option.bind_some, w32_id (x := b + 2 * (i : Int) + 1) (by omega) (by omega), rd_ok (by omega) (by omega), Option.bind_some, wr_ok (by omega) (by omega), Option.bind_some, rd_ok (by omega) (by omega), Option.bind_some, mu_ne (by omega), mu_ne (by omega), mu_eq, xo q _ (by omega) (by omega) (by omega), xo q _ (by omega) (by omega) (by omega), wr_ok v0 v1, Option.bind_some, w32_id (by omega) (by omega)]
    congr 1
    rw [hx]
    funext a j
    unfold mu lyP
    show (if a = 121 ∧ j = s q (b + 2 * (i : Int)) then (i : Int) else _) = _
    by_cases c1 : a = 121
    · by_cases c2 : j = s q (b + 2 * (i : Int))
      · rw [if_pos ⟨c1, c2⟩, if_neg (by omega), if_neg (by omega), if_pos (by omega)]
        show (i : Int) = if s q (b + 2 * (i : Int)) = j then (i : Int) else _
        rw [if_pos c2.symm]
      · rw [if_neg (show ¬ (a = 121 ∧ j = s q (b + 2 * (i : Int))) from fun z => c2 z.2), if_neg (show ¬ (a = 117 ∧ j = (i : Int)) by omega), if_neg (show ¬ (a = 116 ∧ j = (i : Int)) by omega), if_neg (show ¬ (a = 116 ∧ 0 ≤ j ∧ j < (i : Int)) by omega), if_neg (show ¬ (a = 117 ∧ 0 ≤ j ∧ j < (i : Int)) by omega), if_neg (show ¬ (a = 116 ∧ 0 ≤ j ∧ j < ((i + 1 : Nat) : Int)) by omega), if_neg (show ¬ (a = 117 ∧ 0 ≤ j ∧ j < ((i + 1 : Nat) : Int)) by omega)]
        by_cases c3 : a = 121 ∧ 0 ≤ j ∧ j < 16
        · rw [if_pos c3, if_pos c3]
          show _ = if s q (b + 2 * (i : Int)) = j then (i : Int) else _
          rw [if_neg (fun z => c2 z.symm)]
        · rw [if_neg c3, if_neg c3]
    · rw [if_neg (by omega)]
      by_cases c2 : a = 117 ∧ j = (i : Int)
      · rw [if_pos c2, if_neg (by omega), if_pos (by omega), c2.2]
      · rw [if_neg c2]
        by_cases c3 : a = 116 ∧ j = (i : Int)
        · rw [if_pos c3, if_pos (by omega), c3.2]
        · rw [if_neg c3]
          by_cases c4 : a = 116 ∧ 0 ≤ j ∧ j < (i : Int)
          · rw [if_pos c4, if_pos (by omega)]
          · rw [if_neg c4, if_neg (show ¬ (a = 116 ∧ 0 ≤ j ∧ j < ((i + 1 : Nat) : Int)) by omega)]
            by_cases c5 : a = 117 ∧ 0 ≤ j ∧ j < (i : Int)
            · rw [if_pos c5, if_pos (by omega)]
            · rw [if_neg c5, if_neg (show ¬ (a = 117 ∧ 0 ≤ j ∧ j < ((i + 1 : Nat) : Int)) by omega), if_neg (show ¬ (a = 121 ∧ 0 ≤ j ∧ j < 16) by omega), if_neg (show ¬ (a = 121 ∧ 0 ≤ j ∧ j < 16) by omega)]) (by omega)
  exact l2
-- nights kept
def pn (B : iv_M) : Int := if B 114 7 = 20 then 19 else B 114 7
def kpR (B : iv_M) (i : Int) : Int := if 24 * pn B ≤ i ∧ i < 24 * pn B + 24 then (if (i - 24 * pn B) % 2 = 0 then B 116 ((i - 24 * pn B) / 2) else B 117 ((i - 24 * pn B) / 2)) else if B 114 7 = 20 ∧ 0 ≤ i ∧ i < 456 then B 122 (i + 24) else B 122 i
def kpB (B : iv_M) : iv_M := fun a i => if a = 122 then kpR B i else if a = 114 ∧ i = 7 then pn B + 1 else if a = 114 ∧ i = 6 then B 114 6 + 1 else B a i
theorem kpB_o {B : iv_M} {a : Nat} (h : a ≠ 114) (h2 : a ≠ 122) : kpB B a = B a := by
  funext i; unfold kpB; rw [if_neg h2, if_neg (by omega), if_neg (by omega)]
theorem kpB_j {B : iv_M} {j : Int} (h : j ≠ 6) (h2 : j ≠ 7) : kpB B 114 j = B 114 j := by
  unfold kpB; rw [if_neg (by omega), if_neg (by omega), if_neg (by omega)]
theorem kpB_6 {B : iv_M} : kpB B 114 6 = B 114 6 + 1 := by
  unfold kpB; rw [if_neg (by omega), if_neg (by omega), if_pos (by omega)]
theorem kpB_7 {B : iv_M} : kpB B 114 7 = pn B + 1 := by
  unfold kpB; rw [if_neg (by omega), if_pos (by omega)]
theorem kpB_22 {B : iv_M} {i : Int} : kpB B 122 i = kpR B i := by
  unfold kpB; rw [if_pos rfl]
theorem Ew_kp {B : iv_M} : Ew B (kpB B) := ⟨kpB_j (by omega) (by omega), kpB_j (by omega) (by omega), kpB_j (by omega) (by omega), kpB_o (by omega) (by omega), kpB_o (by omega) (by omega), kpB_o (by omega) (by omega), kpB_o (by omega) (by omega)⟩
def shP (s : iv_M) (i : Int) : iv_M := fun a j => if a = 122 ∧ 0 ≤ j ∧ j < i - 24 then s 122 (j + 24) else s a j
theorem FX12_keepsNight_ok {N : Nat} {s : iv_M} (hN : 1000 ≤ N) (h0 : 0 ≤ s 114 7) (h1 : s 114 7 ≤ 20) (n0 : -100000 ≤ s 114 6) (n1 : s 114 6 ≤ 100000) : FX12_keepsNight N s 113 = some (kpB s) := by
  have b54 : ∀ x : iv_M, x 114 7 = pn s → x 114 6 = s 114 6 → FX12_keepsNight_b54 N x 113 = some (mu (mu (flF x 122 (24 * pn s) 12) 114 7 (pn s + 1)) 114 6 (s 114 6 + 1)) := fun x hx hx6 => by
    have hp : 0 ≤ pn s ∧ pn s ≤ 19 := by unfold pn; split <;> omega
    unfold FX12_keepsNight_b54
    simp only [Nat.reduceAdd]
    rw [rd_ok (by omega) (by omega), Option.bind_some, hx, w32_id (x := 24 * pn s) (by omega) (by omega), FX12_fillsFloor_ok (m := 480) (by omega) (by omega) (by decide) (by omega) (by omega), Option.bind_some, rd_ok (by omega) (by omega), Option.bind_some, flF_o (by omega), hx, wr_ok (by omega) (by omega), Option.bind_some, rd_ok (by omega) (by omega), Option.bind_some, mu_ne (by omega), flF_o (by omega), hx6, wr_ok (by omega) (by omega), Option.bind_some, w32_id (by omega) (by omega), w32_id (by omega) (by omega)]
  unfold FX12_keepsNight
  simp only [Nat.reduceAdd]
  rw [rd_ok (by omega) (by omega), Option.bind_some]
  by_cases e : s 114 7 = 20
  · rw [if_pos e]
    have hpn : pn s = 19 := by unfold pn; rw [if_pos e]
    obtain ⟨x, x1, x2⟩ := loop_up (L := fun m x i => FX12_keepsNight_l15 N 113 (fun (s_3421 : iv_M) => ((rd s_3421 114 14 7).bind fun v_3423 => ((wr s_3421 114 14 7 (w32 (v_3423 - 1))).bind fun s_3424 => (FX12_keepsNight_b54 N s_3424 113)))) m x i) (k := (fun (s_3421 : iv_M) => ((rd s_3421 114 14 7).bind fun v_3423 => ((wr s_3421 114 14 7 (w32 (v_3423 - 1))).bind fun s_3424 => (FX12_keepsNight_b54 N s_3424 113))))) (hi := 480) (fun i x => x = shP s i ∧ 24 ≤ i) (fun m x hx => by
        show FX12_keepsNight_l15 N 113 _ (m + 1) x 480 = _
        rw [FX12_keepsNight_l15, if_pos (by omega)]) (fun m i x hx hi => by
        refine ⟨mu x 122 (i - 24) (s 122 i), ?_, ?_, by omega⟩
        · show FX12_keepsNight_l15 N 113 _ (m + 1) x i = FX12_keepsNight_l15 N 113 _ m _ (i + 1)
          have xi : x 122 i = s 122 i := by rw [hx.1]; unfold shP; rw [if_neg (by omega)]
          rw [FX12_keepsNight_l15, if_neg (by omega)]
          simp only [Nat.reduceAdd]
          rw [rd_ok (by omega) (by omega), Option.bind_some, w32_id (x := i - 24) (by omega) (by omega), wr_ok (by omega) (by omega), Option.bind_some, w32_id (by omega) (by omega), xi]
        · rw [hx.1]
          funext a j
          unfold mu shP
          by_cases c1 : a = 122 ∧ j = i - 24
          · rw [if_pos c1, if_pos (by omega), show j + 24 = i by omega]
          · rw [if_neg c1]
            by_cases c2 : a = 122 ∧ 0 ≤ j ∧ j < i - 24
            · rw [if_pos c2, if_pos (by omega)]
            · rw [if_neg c2, if_neg (by omega)]) N 24 s ⟨by funext a j; unfold shP; rw [if_neg (by omega)], by omega⟩ (by omega) (by omega)
    refine x2.trans ?_
    have xo : ∀ a j, a ≠ 122 → x a j = s a j := fun a j ha => by rw [x1.1]; unfold shP; rw [if_neg (by omega)]
    show ((rd x 114 14 7).bind fun v_3423 => ((wr x 114 14 7 (w32 (v_3423 - 1))).bind fun s_3424 => (FX12_keepsNight_b54 N s_3424 113))) = _
    rw [rd_ok (by omega) (by omega), Option.bind_some, xo 114 7 (by omega), e, wr_ok (by omega) (by omega), Option.bind_some, b54 _ (by rw [mu_eq, hpn]; decide) (by rw [mu_ne (by omega), xo 114 6 (by omega)])]
    congr 1
    funext a j
    unfold kpB
    by_cases c1 : a = 122
    · subst c1
      rw [if_pos rfl, mu_ne (by omega), mu_ne (by omega)]
      unfold flF kpR
      by_cases c2 : 24 * pn s ≤ j ∧ j < 24 * pn s + 24
      · rw [if_pos (by omega), if_pos c2, mu_ne (by omega), mu_ne (by omega), xo 116 _ (by omega), xo 117 _ (by omega)]
      · rw [if_neg (by omega), if_neg c2, mu_ne (by omega), x1.1]
        unfold shP
        by_cases c3 : 0 ≤ j ∧ j < 456
        · rw [if_pos (by omega), if_pos (by omega)]
        · rw [if_neg (by omega), if_neg (by omega)]
    · rw [if_neg c1]
      by_cases c2 : a = 114 ∧ j = 7
      · rw [if_pos c2, c2.1, c2.2, mu_ne (by omega), mu_eq]
      · rw [if_neg c2]
        by_cases c3 : a = 114 ∧ j = 6
        · rw [if_pos c3, c3.1, c3.2, mu_eq]
        · rw [if_neg c3, mu_ne (by omega), mu_ne (by omega), flF_o c1, mu_ne (by omega), xo a j c1]
  · rw [if_neg e, b54 s (by unfold pn; rw [if_neg e]) rfl]
    congr 1
    funext a j
    unfold kpB
    by_cases c1 : a = 122
    · subst c1
      rw [if_pos rfl, mu_ne (by omega), mu_ne (by omega)]
      unfold flF kpR
      by_cases c2 : 24 * pn s ≤ j ∧ j < 24 * pn s + 24
      · rw [if_pos (by omega), if_pos c2]
      · rw [if_neg (by omega), if_neg c2, if_neg (by omega)]
    · rw [if_neg c1]
      by_cases c2 : a = 114 ∧ j = 7
      · rw [if_pos c2, c2.1, c2.2, mu_ne (by omega), mu_eq]
      · rw [if_neg c2]
        by_cases c3 : a = 114 ∧ j = 6
        · rw [if_pos c3, c3.1, c3.2, mu_eq]
        · rw [if_neg c3, mu_ne (by omega), mu_ne (by omega), flF_o c1]
