-- FLOORS: what the reference does before its loop; both
theorem fit_mm {P : iv_M} {c r : Int} (hW : Wa P) (hC : Wc P) (c0 : 0 ≤ c) (c1 : c < 16) (h6 : P 116 r = c) (h1 : P 121 c = r) (r0 : 0 ≤ r) (hf : ¬ fdn P r 4 0 = true) : mm P ≠ 0 := by
  intro hz
  rw [← mis_mm hW hC, ffb_zero (f := mis P) (fun i => mi_01 P (i / 4) (i % 4)) 64, first_eq hW hC] at hz
  have no : ∀ i : Int, 0 ≤ i → i < 64 → cms P i ≠ 1 := by
    rcases ffb_spec (f := cms P) 64 with ⟨_, h⟩ | ⟨h, _⟩
    · exact h
    · omega
  have one : ∀ d : Int, 0 ≤ d → d < 4 → fdd P r d = true := fun d d0 d1 => by
    have nz := no (4 * c + d) (by omega) (by omega)
    unfold cms at nz
    rw [show (4 * c + d) / 4 = c by omega, show (4 * c + d) % 4 = d by omega, if_neg (by omega)] at nz
    unfold ed kdn at nz
    unfold fdd
    rw [h6]
    have hn := nb_range (c := c) (d := d) hW
    by_cases e : nb P c d = -1
    · rw [if_pos e] at nz ⊢
      have : ¬ kd P c d = 1 := fun z => nz (by rw [z]; decide)
      rw [decide_eq_false this]; rfl
    · rw [if_neg e] at nz ⊢
      by_cases k : P 121 (nb P c d) = -1
      · rw [if_pos k]
      · rw [if_neg k]
        by_cases g : kd P c d = kd P (nb P c d) ((d + 2) % 4)
        · exact decide_eq_true g
        · exfalso
          apply nz
          have k1 := (kd_3 hW hC (c := c) (d := d) c0 c1).1
          have k2 := (kd_3 hW hC (c := nb P c d) (d := (d + 2) % 4) (by omega) (by omega)).1
          unfold bd
          rw [if_neg g, if_neg]
          rintro (z | z)
          · have := k1.mp z; omega
          · exact k (k2.mp z)
  apply hf
  show (fdd P r ((0 : Nat) : Int) && (fdd P r ((0 + 1 : Nat) : Int) && (fdd P r ((0 + 1 + 1 : Nat) : Int) && (fdd P r ((0 + 1 + 1 + 1 : Nat) : Int) && true)))) = true
  rw [one _ (by omega) (by omega), one _ (by omega) (by omega), one _ (by omega) (by omega), one _ (by omega) (by omega)]
  rfl
theorem ffw_mm {P : iv_M} {fx : Int → Int} {n : Int} (hW : Wa P) (hC : Wc P) (hr : ∀ r, 0 ≤ r → r < n → fx r = 1 → 0 ≤ P 116 r ∧ P 116 r < 16 ∧ P 121 (P 116 r) = r) : ∀ (m : Nat) (x : Int), 0 ≤ x → x + m = n → ¬ ffw P fx m x = true → mm P ≠ 0 := by
  intro m
  induction m with
  | zero => intro x _ _ h; exact absurd rfl h
  | succ m ih =>
    intro x x0 hx h
    have e1 : ffw P fx (m + 1) x = ((!decide (fx x = 1) || fdn P x 4 0) && ffw P fx m (x + 1)) := rfl
    rw [e1] at h
    by_cases g : ffw P fx m (x + 1) = true
    · rw [g, Bool.and_true] at h
      by_cases e : fx x = 1
      · rw [decide_eq_true e] at h
        obtain ⟨a, b, c⟩ := hr x x0 (by omega) e
        exact fit_mm hW hC a b rfl c x0 h
      · rw [decide_eq_false e] at h; exact absurd rfl h
    · exact ih (x + 1) (by omega) (by omega) g
def cpT (s : iv_M) : iv_M := fun a i => if a = 159 ∧ 0 ≤ i ∧ i < 12 then s 117 i else s a i
theorem copies_ok {N : Nat} {s : iv_M} (hN : 100 ≤ N) : FX12_copies N s 117 159 = some (cpT s) := by
  have lp : ∀ (m f : Nat) (i : Int) (z : iv_M), 0 ≤ i → i + m = 12 → m < f → (∀ a, a ≠ 159 → z a = s a) → (∀ j, z 159 j = if 0 ≤ j ∧ j < i then s 117 j else s 159 j) → FX12_copies_l2 N 117 159 (fun (s_2862 : iv_M) => some s_2862) f z i = some (cpT s) := by
    intro m
    induction m with
    | zero =>
      intro f i z i0 hi hf h1 h2
      obtain ⟨f', rfl⟩ : ∃ f', f = f' + 1 := ⟨f - 1, by omega⟩
      rw [FX12_copies_l2, show ((sh 117).2 : Int) = 12 by decide, if_pos (by omega)]
      congr 1
      funext a j
      unfold cpT
      by_cases e : a = 159
      · rw [e, h2, show i = 12 by omega]
        by_cases g : 0 ≤ j ∧ j < 12
        · rw [if_pos g, if_pos ⟨rfl, g⟩]
        · rw [if_neg g, if_neg (fun z => g z.2)]
      · rw [if_neg (fun z => e z.1), h1 a e]
    | succ m ih =>
      intro f i z i0 hi hf h1 h2
      obtain ⟨f', rfl⟩ : ∃ f', f = f' + 1 := ⟨f - 1, by omega⟩
      rw [FX12_copies_l2, show ((sh 117).2 : Int) = 12 by decide, show ((sh 159).2 : Int) = 12 by decide, if_neg (by omega), rd_ok i0 (by omega), Option.bind_some, wr_ok i0 (by omega), Option.bind_some, w32_id (by omega) (by omega)]
      refine ih f' (i + 1) _ (by omega) (by omega) (by omega) (fun a ha => by rw [mu_rw ha, h1 a ha]) (fun j => ?_)
      by_cases e : j = i
      · rw [e, mu_eq, if_pos (by omega), h1 117 (by decide)]
      · rw [mu_ne (by omega), h2]
        by_cases g : 0 ≤ j ∧ j < i
        · rw [if_pos g, if_pos (by omega)]
        · rw [if_neg g, if_neg (by omega)]
  exact lp 12 N 0 s (by omega) (by omega) (by omega) (fun _ _ => rfl) (fun j => by rw [if_neg (by omega)])
theorem getD_snoc {l : List Int} {r : Int} {j : Nat} (h : j < l.length) : (l ++ [r]).getD j 0 = l.getD j 0 := by
  rw [List.getD_eq_getElem?_getD, List.getD_eq_getElem?_getD, List.getElem?_append_left h]
theorem getD_last {l : List Int} {r : Int} : (l ++ [r]).getD l.length 0 = r := by
  rw [List.getD_eq_getElem?_getD, List.getElem?_append_right (Nat.le_refl _)]; simp
theorem takes_ok {N : Nat} {s B : iv_M} {kx : iv_M → Int → Option (Int × iv_M)} (hW : Wf B) (hx : ∀ r, 0 ≤ r → r < B 114 2 → B 118 r = 0 ∨ B 118 r = 1) (h4 : s 114 = B 114) (h6 : s 116 = B 116) (h8 : s 118 = B 118) : ∀ (m f : Nat) (x : Int) (pre : List Int) (z : iv_M), 0 ≤ x → x + m = B 114 2 → m < f → (pre.length : Int) ≤ x → (∀ a, a ≠ 121 → a ≠ 157 → z a = s a) → z 121 = fP0 B x 121 → (∀ j : Nat, j < pre.length → z 157 j = pre.getD j 0) → ∃ z', FX12_takesLoose_l4 N 113 kx f z (pre.length : Int) x = kx z' ((pre ++ flo (B 118) m x).length : Int) ∧ (∀ a, a ≠ 121 → a ≠ 157 → z' a = s a) ∧ z' 121 = fP0 B (B 114 2) 121 ∧ ∀ j : Nat, j < (pre ++ flo (B 118) m x).length → z' 157 j = (pre ++ flo (B 118) m x).getD j 0 := by
  intro m
  have b12 := hW.1.2.2.2.2.2.1
  induction m with
  | zero =>
    intro f x pre z x0 hxm hf hp ho h1 h7
    obtain ⟨f', rfl⟩ : ∃ f', f = f' + 1 := ⟨f - 1, by omega⟩
    have fl : flo (B 118) 0 x = [] := rfl
    rw [fl, List.append_nil]
    refine ⟨z, ?_, ho, by rw [h1, show B 114 2 = x by omega], h7⟩
    rw [FX12_takesLoose_l4]
    simp only [Nat.reduceAdd]
    rw [rd_ok (by omega) (by omega), Option.bind_some, ho 114 (by decide) (by decide), h4, if_pos (by omega)]
  | succ m ih =>
    intro f x pre z x0 hxm hf hp ho h1 h7
    obtain ⟨f', rfl⟩ : ∃ f', f = f' + 1 := ⟨f - 1, by omega⟩
    have fl : flo (B 118) (m + 1) x = if B 118 x = 1 then flo (B 118) m (x + 1) else x :: flo (B 118) m (x + 1) := rfl
    rw [FX12_takesLoose_l4]
    simp only [Nat.reduceAdd]
    rw [rd_ok (by omega) (by omega), Option.bind_some, ho 114 (by decide) (by decide), h4, if_neg (by omega), rd_ok x0 (by omega), Option.bind_some, ho 118 (by decide) (by decide), h8, fl]
    unfold FX12_takesLoose_b45
    by_cases e : B 118 x = 1
    · rw [if_neg (by omega), if_pos e, w32_id (by omega) (by omega)]
      exact ih f' (x + 1) pre z (by omega) (by omega) (by omega) (by omega) ho (by rw [fP0_fix e]; exact h1) h7
    · have e0 : B 118 x = 0 := by rcases hx x x0 (by omega) with u | u; exact u; exact absurd u e
      obtain ⟨c0, c1, cr⟩ := hW.2.2 x x0 (by omega)
      rw [if_pos e0, if_neg e, wr_ok (by omega) (by omega), Option.bind_some, rd_ok x0 (by omega), Option.bind_some, mu_rw (show (116 : Nat) ≠ 157 by decide), ho 116 (by decide) (by decide), h6, wr_ok c0 c1, Option.bind_some, w32_id (x := (pre.length : Int) + 1) (by omega) (by omega), w32_id (x := x + 1) (by omega) (by omega)]
      obtain ⟨y, hy⟩ : ∃ y, y = mu (mu z 157 (pre.length : Int) x) 121 (B 116 x) (-1) := ⟨_, rfl⟩
      rw [← hy]
      have ln1 : ((pre ++ [x]).length : Int) = (pre.length : Int) + 1 := by rw [List.length_append]; rfl
      obtain ⟨z', a1, a2⟩ := ih f' (x + 1) (pre ++ [x]) y (by omega) (by omega) (by omega) (by omega) (fun a a1 a2 => by rw [hy, mu_rw a1, mu_rw a2]; exact ho a a1 a2) (by
          funext i
          rw [fP0_take hW x0 (by omega) e, hy]
          by_cases g : i = B 116 x
          · rw [if_pos g, g, mu_eq]
          · rw [if_neg g, mu_ne (fun z => g z.2), mu_rw (by decide), h1]) (fun j hj => by
          rw [hy, mu_rw (by decide)]
          by_cases g : j = pre.length
          · rw [g, mu_eq, getD_last]
          · have hj2 : j < pre.length := by rw [List.length_append] at hj; simp at hj; omega
            rw [mu_ne (by omega), getD_snoc hj2]; exact h7 j hj2)
      rw [List.append_assoc] at a1 a2
      rw [ln1] at a1
      exact ⟨z', a1, a2⟩
theorem areFixed_ok {N : Nat} {z P : iv_M} {n : Int} (hN : 100 ≤ N) (hE : rE z P) (hW : Wa P) (hC : Wc P) (h2 : P 114 2 = n) (hx : ∀ r, 0 ≤ r → r < n → z 118 r = 0 ∨ z 118 r = 1) (hr : ∀ r, 0 ≤ r → r < n → z 118 r = 1 → 0 ≤ P 116 r ∧ P 116 r < 16 ∧ P 121 (P 116 r) = r) (h0 : 0 ≤ n) (h12 : n ≤ 12) : FX12_areFixedWell N z 113 = some (if ffw P (z 118) n.toNat 0 = true then 1 else 0) := by
  obtain ⟨wa, wc⟩ := rE_W hE hW hC
  have e4 : z 114 2 = n := by rw [hE.1, h2]
  have lp0 : ∀ (m f : Nat) (x : Int), 0 ≤ x → x + m = n → m < f → FX12_areFixedWell_l4 N z 113 (fun (x3786_1 : Int) => (if x3786_1 = 0 ∨ x3786_1 = 1 then some x3786_1 else none)) f 0 x = some 0 := by
    intro m
    induction m with
    | zero =>
      intro f x x0 hxm hf
      obtain ⟨f', rfl⟩ : ∃ f', f = f' + 1 := ⟨f - 1, by omega⟩
      rw [FX12_areFixedWell_l4]
      simp only [Nat.reduceAdd]
      rw [rd_ok (by omega) (by omega), Option.bind_some, e4, if_pos (by omega)]
      rfl
    | succ m ih =>
      intro f x x0 hxm hf
      obtain ⟨f', rfl⟩ : ∃ f', f = f' + 1 := ⟨f - 1, by omega⟩
      rw [FX12_areFixedWell_l4]
      simp only [Nat.reduceAdd]
      unfold FX12_areFixedWell_b39 FX12_areFixedWell_b40
      rw [rd_ok (by omega) (by omega), Option.bind_some, e4, if_neg (by omega), if_pos trivial, w32_id (by omega) (by omega)]
      exact ih f' (x + 1) (by omega) (by omega) (by omega)
  have lp : ∀ (m f : Nat) (x : Int), 0 ≤ x → x + m = n → m < f → FX12_areFixedWell_l4 N z 113 (fun (x3786_1 : Int) => (if x3786_1 = 0 ∨ x3786_1 = 1 then some x3786_1 else none)) f 1 x = some (if ffw P (z 118) m x = true then 1 else 0) := by
    intro m
    induction m with
    | zero =>
      intro f x x0 hxm hf
      obtain ⟨f', rfl⟩ : ∃ f', f = f' + 1 := ⟨f - 1, by omega⟩
      rw [FX12_areFixedWell_l4]
      simp only [Nat.reduceAdd]
      rw [rd_ok (by omega) (by omega), Option.bind_some, e4, if_pos (by omega)]
      rfl
    | succ m ih =>
      intro f x x0 hxm hf
      obtain ⟨f', rfl⟩ : ∃ f', f = f' + 1 := ⟨f - 1, by omega⟩
      have nx := ih f' (x + 1) (by omega) (by omega) (by omega)
      have n0 := lp0 m f' (x + 1) (by omega) (by omega) (by omega)
      have e1 : ffw P (z 118) (m + 1) x = ((!decide (z 118 x = 1) || fdn P x 4 0) && ffw P (z 118) m (x + 1)) := rfl
      rw [FX12_areFixedWell_l4, e1]
      simp only [Nat.reduceAdd]
      unfold FX12_areFixedWell_b39 FX12_areFixedWell_b35 FX12_areFixedWell_b40
      rw [rd_ok (by omega) (by omega), Option.bind_some, e4, if_neg (by omega), if_neg (show ¬ (1 : Int) = 0 by decide), rd_ok x0 (by omega), Option.bind_some, w32_id (by omega) (by omega), nx, n0]
      by_cases e : z 118 x = 1
      · obtain ⟨c0, c1, cr⟩ := hr x x0 (by omega) e
        rw [if_neg (by omega), decide_eq_true e]
        have hp := hE.2.2.2 (P 116 x) c0 c1 (by rw [cr]; omega)
        rw [cr] at hp
        have ht := placed hW hC c0 c1 (by rw [cr]; omega)
        rw [cr] at ht
        rw [isLaidWell_ok (by omega) wa wc x0 (by omega) (by rw [hp.1]; exact c0) (by rw [hp.1]; exact c1) (by rw [hp.1, hE.2.2.1]; exact cr) (by rw [hp.2]; exact ht.2.2.2.2.1) (by rw [hp.2]; exact ht.2.2.2.2.2.1), Option.bind_some, rE_fdn hE hW hp.1 c0 c1]
        show _ = some (if (fdn P x 4 0 && ffw P (z 118) m (x + 1)) = true then (1 : Int) else 0)
        by_cases g : fdn P x 4 0 = true
        · rw [if_pos g, if_neg (by decide), g, Bool.true_and]
        · have g' : fdn P x 4 0 = false := by cases hh : fdn P x 4 0; rfl; exact absurd hh g
          rw [if_neg g, if_pos rfl, g', Bool.false_and, if_neg (by decide)]
      · have e0 : z 118 x = 0 := by rcases hx x x0 (by omega) with u | u; exact u; exact absurd u e
        rw [if_pos e0, decide_eq_false e]
        rfl
  unfold FX12_areFixedWell
  exact lp n.toNat N 0 (by omega) (by omega) (by omega)
