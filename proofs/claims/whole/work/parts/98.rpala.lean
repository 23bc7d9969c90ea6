-- PALACE: rows filled and copied by the reference
theorem fill_gen {ρ : Type} {L : Nat → iv_M → Int → Option ρ} {k : iv_M → Option ρ} {a N : Nat} {n v : Int} {x : iv_M} (n0 : 0 ≤ n) (hN : n < N) (hz : ∀ f z, L (f + 1) z n = k z) (hs : ∀ f z i, 0 ≤ i → i < n → L (f + 1) z i = L f (mu z a i v) (i + 1)) : L N x 0 = k (flM x a n v) := by
  obtain ⟨y, e1, e2⟩ := loop_up (L := L) (k := k) (hi := n) (fun i z => z = flM x a i v ∧ 0 ≤ i) (fun m z hz' => hz m z) (fun m i z hz' hi => by
    refine ⟨mu z a i v, hs m z i hz'.2 hi, ?_, by omega⟩
    rw [hz'.1]
    funext c j
    unfold mu flM
    by_cases e : c = a ∧ j = i
    · rw [if_pos e, if_pos (by omega)]
    · rw [if_neg e]
      by_cases e2 : c = a ∧ 0 ≤ j ∧ j < i
      · rw [if_pos e2, if_pos (by omega)]
      · rw [if_neg e2, if_neg (by omega)]) N 0 x ⟨by funext c j; unfold flM; rw [if_neg (by omega)], by omega⟩ n0 (by omega)
  rw [← e1.1]; exact e2
def cpG (s : iv_M) (qa qb : Nat) (n : Int) : iv_M := fun a i => if a = qb ∧ 0 ≤ i ∧ i < n then s qa i else s a i
theorem cpG_o {s : iv_M} {qa qb a : Nat} {n : Int} (h : a ≠ qb) : cpG s qa qb n a = s a := by funext i; unfold cpG; rw [if_neg (fun z => h z.1)]
theorem cpG_i {s : iv_M} {qa qb : Nat} {n i : Int} : cpG s qa qb n qb i = if 0 ≤ i ∧ i < n then s qa i else s qb i := by
  unfold cpG
  by_cases e : 0 ≤ i ∧ i < n
  · rw [if_pos ⟨rfl, e⟩, if_pos e]
  · rw [if_neg (fun z => e z.2), if_neg e]
theorem copies_gen {N qa qb : Nat} {s : iv_M} {n : Int} (hN : 100 ≤ N) (ha : ((sh qa).2 : Int) = n) (hb : ((sh qb).2 : Int) = n) (hne : qa ≠ qb) (n0 : 0 ≤ n) (n1 : n < 90) : FX12_copies N s qa qb = some (cpG s qa qb n) := by
  obtain ⟨y, e1, e2⟩ := loop_up (L := fun m (z : iv_M) i => FX12_copies_l2 N qa qb (fun (s_2862 : iv_M) => some s_2862) m z i) (k := fun z => some z) (hi := n) (fun i z => z = cpG s qa qb i ∧ 0 ≤ i) (fun m z hz' => by
    show FX12_copies_l2 N qa qb (fun (s_2862 : iv_M) => some s_2862) (m + 1) z n = some z
    rw [FX12_copies_l2, ha, if_pos (by omega)]) (fun m i z hz' hi => by
    refine ⟨mu z qb i (s qa i), ?_, ?_, by omega⟩
    · show FX12_copies_l2 N qa qb (fun (s_2862 : iv_M) => some s_2862) (m + 1) z i = FX12_copies_l2 N qa qb (fun (s_2862 : iv_M) => some s_2862) m (mu z qb i (s qa i)) (i + 1)
      rw [FX12_copies_l2, ha, hb, if_neg (by omega), rd_ok hz'.2 hi, Option.bind_some, wr_ok hz'.2 hi, Option.bind_some, w32_id (by omega) (by omega), hz'.1, cpG_o hne]
    · rw [hz'.1]
      funext c j
      unfold mu cpG
      by_cases e : c = qb ∧ j = i
      · rw [if_pos e, if_pos (by omega), e.2]
      · rw [if_neg e]
        by_cases e2 : c = qb ∧ 0 ≤ j ∧ j < i
        · rw [if_pos e2, if_pos (by omega)]
        · rw [if_neg e2, if_neg (by omega)]) N 0 s ⟨by funext c j; unfold cpG; rw [if_neg (by omega)], by omega⟩ n0 (by omega)
  unfold FX12_copies
  rw [← e1.1]; exact e2
def scl (s : iv_M) : iv_M := fun a i => if a = 114 ∧ 0 ≤ i ∧ i < 12 then (if i < 5 then s 132 i else 0) else s a i
theorem scl_o {s : iv_M} {a : Nat} (h : a ≠ 114) : scl s a = s a := by funext i; unfold scl; rw [if_neg (fun z => h z.1)]
theorem scal_ok {N : Nat} {s : iv_M} {kx : iv_M → Option (Int × iv_M)} (hN : 100 ≤ N) : FX12_palace_l21 N 113 kx N s 0 = kx (scl s) := by
  have s14 : ((sh 114).2 : Int) = 14 := by decide
  obtain ⟨y, e1, e2⟩ := loop_up (L := fun m (z : iv_M) i => FX12_palace_l21 N 113 kx m z i) (k := kx) (hi := 12) (fun i z => (z = fun a j => if a = 114 ∧ 0 ≤ j ∧ j < i then (if j < 5 then s 132 j else 0) else s a j) ∧ 0 ≤ i) (fun m z hz' => by
    show FX12_palace_l21 N 113 kx (m + 1) z 12 = kx z
    rw [FX12_palace_l21, if_pos (by omega)]) (fun m i z hz' hi => by
    refine ⟨mu z 114 i (if i < 5 then s 132 i else 0), ?_, ?_, by omega⟩
    · show FX12_palace_l21 N 113 kx (m + 1) z i = FX12_palace_l21 N 113 kx m (mu z 114 i (if i < 5 then s 132 i else 0)) (i + 1)
      have z32 : z 132 i = s 132 i := by rw [hz'.1]; exact if_neg (by omega)
      rw [FX12_palace_l21, if_neg (by omega)]
      unfold FX12_palace_b47
      simp only [Nat.reduceAdd]
      rw [s14, w32_id (by omega) (by omega)]
      by_cases g : i < 5
      · rw [if_neg (by omega), if_pos g, rd_ok hz'.2 g, Option.bind_some, z32, wr_ok hz'.2 (by omega), Option.bind_some]
      · rw [if_pos (by omega), if_neg g, wr_ok hz'.2 (by omega), Option.bind_some]
    · rw [hz'.1]
      funext c j
      unfold mu
      show (if c = 114 ∧ j = i then (if i < 5 then s 132 i else 0) else (if c = 114 ∧ 0 ≤ j ∧ j < i then (if j < 5 then s 132 j else 0) else s c j)) = if c = 114 ∧ 0 ≤ j ∧ j < i + 1 then (if j < 5 then s 132 j else 0) else s c j
      by_cases e : c = 114 ∧ j = i
      · rw [if_pos e, if_pos (show c = 114 ∧ 0 ≤ j ∧ j < i + 1 by omega), e.2]
      · rw [if_neg e]
        by_cases e2 : c = 114 ∧ 0 ≤ j ∧ j < i
        · rw [if_pos e2, if_pos (show c = 114 ∧ 0 ≤ j ∧ j < i + 1 by omega)]
        · rw [if_neg e2, if_neg (show ¬ (c = 114 ∧ 0 ≤ j ∧ j < i + 1) by omega)]) N 0 s ⟨by funext c j; rw [if_neg (by omega)], by omega⟩ (by omega) (by omega)
  have : y = scl s := e1.1
  rw [← this]; exact e2
/-- what the reference makes of a text that was read -/
theorem takes_over {N : Nat} {z : iv_M} (hN : 100 ≤ N) (hO : OZ z) (hf : z 113 30 = 0) : ∃ r2, (if (z 113 30) ≤ 0 then (FX12_palace_l21 N 113 (fun (s_2934 : iv_M) => ((wr s_2934 114 14 12 (-1)).bind fun s_2936 => ((FX12_copies N s_2936 133 115).bind fun s_2939 => ((FX12_copies N s_2939 134 116).bind fun s_2941 => ((FX12_copies N s_2941 135 118).bind fun s_2943 => ((FX12_copies N s_2943 136 119).bind fun s_2945 => ((FX12_copies N s_2945 137 120).bind fun s_2947 => ((FX12_copies N s_2947 138 121).bind fun s_2949 => (FX12_palace_l130 N 113 (fun (s_2950 : iv_M) => ((rd s_2950 114 14 2).bind fun v_2952 => (some (v_2952, s_2950)))) N s_2949 0))))))))) N z 0) else (some ((w32 ((-2) - (z 113 30))), z))) = some (nbk z 114 2, r2) ∧ (∀ i, r2 114 i = if i = 13 then z 114 13 else nbk z 114 i) ∧ (∀ a, 115 ≤ a → a ≤ 121 → r2 a = nbk z a) ∧ ∀ a, (a < 114 ∨ 121 < a) → r2 a = z a := by
  rw [if_pos (by omega), scal_ok hN, wr_ok (by omega) (by omega), Option.bind_some, copies_gen (n := 48) hN (by decide) (by decide) (by decide) (by omega) (by omega), Option.bind_some, copies_gen (n := 12) hN (by decide) (by decide) (by decide) (by omega) (by omega), Option.bind_some, copies_gen (n := 12) hN (by decide) (by decide) (by decide) (by omega) (by omega), Option.bind_some, copies_gen (n := 4) hN (by decide) (by decide) (by decide) (by omega) (by omega), Option.bind_some, copies_gen (n := 6) hN (by decide) (by decide) (by decide) (by omega) (by omega), Option.bind_some, copies_gen (n := 16) hN (by decide) (by decide) (by decide) (by omega) (by omega), Option.bind_some]
  obtain ⟨y, hy⟩ : ∃ y, y = cpG (cpG (cpG (cpG (cpG (cpG (mu (scl z) 114 12 (-1)) 133 115 48) 134 116 12) 135 118 12) 136 119 4) 137 120 6) 138 121 16 := ⟨_, rfl⟩
  rw [← hy, fill_gen (L := fun m (x : iv_M) i => FX12_palace_l130 N 113 (fun (s_2950 : iv_M) => ((rd s_2950 114 14 2).bind fun v_2952 => (some (v_2952, s_2950)))) m x i) (k := fun (s_2950 : iv_M) => ((rd s_2950 114 14 2).bind fun v_2952 => (some (v_2952, s_2950)))) (a := 117) (n := 12) (v := 0) (by omega) (by omega) (fun f x => by
    show FX12_palace_l130 N 113 (fun (s_2950 : iv_M) => ((rd s_2950 114 14 2).bind fun v_2952 => (some (v_2952, s_2950)))) (f + 1) x 12 = _
    rw [FX12_palace_l130, if_pos (by omega)]) (fun f x i i0 i1 => by
    show FX12_palace_l130 N 113 (fun (s_2950 : iv_M) => ((rd s_2950 114 14 2).bind fun v_2952 => (some (v_2952, s_2950)))) (f + 1) x i = _
    rw [FX12_palace_l130, if_neg (by omega)]
    simp only [Nat.reduceAdd]
    rw [wr_ok i0 i1, Option.bind_some, w32_id (by omega) (by omega)])]
  have r14 : ∀ i, flM y 117 12 0 114 i = if i = 13 then z 114 13 else nbk z 114 i := fun i => by
    have l14 : ln 114 = 14 := by decide
    rw [fl_ne (by decide), hy, cpG_o (by decide), cpG_o (by decide), cpG_o (by decide), cpG_o (by decide), cpG_o (by decide), cpG_o (by decide)]
    unfold nbk
    by_cases g12 : i = 12
    · rw [g12, mu_eq, if_neg (by omega), if_pos (by omega), if_pos rfl, if_neg (by omega), if_pos rfl]
    rw [mu_ne (by omega)]
    unfold scl
    by_cases g13 : i = 13
    · rw [if_pos g13, g13, if_neg (by omega)]
    rw [if_neg g13]
    by_cases g : 0 ≤ i ∧ i < 12
    · rw [if_pos ⟨rfl, g⟩, if_pos (show 0 ≤ i ∧ i < ln 114 by omega), if_pos rfl, if_neg g12]
    · rw [if_neg (fun u => g u.2), if_neg (by omega), hO 114 (by decide) (by decide) i (by omega)]
  have oo : ∀ a, a ≠ 114 → a ≠ 115 → a ≠ 116 → a ≠ 117 → a ≠ 118 → a ≠ 119 → a ≠ 120 → a ≠ 121 → flM y 117 12 0 a = z a := fun a h4 h5 h6 h7 h8 h9 h20 h21 => by
    funext i
    rw [fl_ne h7, hy, cpG_o h21, cpG_o h20, cpG_o h9, cpG_o h8, cpG_o h6, cpG_o h5, mu_rw h4, scl_o h4]
  refine ⟨flM y 117 12 0, ?_, r14, fun a a0 a1 => ?_, fun a ha => oo a (by omega) (by omega) (by omega) (by omega) (by omega) (by omega) (by omega) (by omega)⟩
  · show ((rd (flM y 117 12 0) 114 14 2).bind fun v_2952 => (some (v_2952, flM y 117 12 0))) = _
    rw [rd_ok (by omega) (by omega), Option.bind_some, r14, if_neg (by omega)]
  · have m1 : ∀ c, c ≠ 114 → mu (scl z) 114 12 (-1) c = z c := fun c hc => by rw [mu_rw hc, scl_o hc]
    funext i
    have sev : a = 115 ∨ a = 116 ∨ a = 117 ∨ a = 118 ∨ a = 119 ∨ a = 120 ∨ a = 121 := by omega
    rcases sev with rfl | rfl | rfl | rfl | rfl | rfl | rfl
    · have hl : ln 115 = 48 := by decide
      rw [fl_ne (by decide), hy, cpG_o (by decide), cpG_o (by decide), cpG_o (by decide), cpG_o (by decide), cpG_o (by decide), cpG_i, m1 _ (by decide), m1 _ (by decide)]
      by_cases g : 0 ≤ i ∧ i < 48
      · rw [if_pos g, nbk_5 g.1 g.2]
      · unfold nbk; rw [if_neg g, if_neg (by omega)]; exact hO 115 (by decide) (by decide) i (by omega)
    · have hl : ln 116 = 12 := by decide
      rw [fl_ne (by decide), hy, cpG_o (by decide), cpG_o (by decide), cpG_o (by decide), cpG_o (by decide), cpG_i, cpG_o (by decide), cpG_o (by decide), m1 _ (by decide), m1 _ (by decide)]
      by_cases g : 0 ≤ i ∧ i < 12
      · rw [if_pos g, nbk_6 g.1 g.2]
      · unfold nbk; rw [if_neg g, if_neg (by omega)]; exact hO 116 (by decide) (by decide) i (by omega)
    · have hl : ln 117 = 12 := by decide
      rw [nbk_7]
      by_cases g : 0 ≤ i ∧ i < 12
      · rw [fl_eq g.1 g.2]
      · have : flM y 117 12 0 117 i = y 117 i := if_neg (by omega)
        rw [this, hy, cpG_o (by decide), cpG_o (by decide), cpG_o (by decide), cpG_o (by decide), cpG_o (by decide), cpG_o (by decide), m1 _ (by decide)]
        exact hO 117 (by decide) (by decide) i (by omega)
    · have hl : ln 118 = 12 := by decide
      rw [fl_ne (by decide), hy, cpG_o (by decide), cpG_o (by decide), cpG_o (by decide), cpG_i, cpG_o (by decide), cpG_o (by decide), cpG_o (by decide), cpG_o (by decide), m1 _ (by decide), m1 _ (by decide)]
      by_cases g : 0 ≤ i ∧ i < 12
      · rw [if_pos g, nbk_8 g.1 g.2]
      · unfold nbk; rw [if_neg g, if_neg (by omega)]; exact hO 118 (by decide) (by decide) i (by omega)
    · have hl : ln 119 = 4 := by decide
      rw [fl_ne (by decide), hy, cpG_o (by decide), cpG_o (by decide), cpG_i, cpG_o (by decide), cpG_o (by decide), cpG_o (by decide), cpG_o (by decide), cpG_o (by decide), cpG_o (by decide), m1 _ (by decide), m1 _ (by decide)]
      by_cases g : 0 ≤ i ∧ i < 4
      · rw [if_pos g, nbk_9 g.1 g.2]
      · unfold nbk; rw [if_neg g, if_neg (by omega)]; exact hO 119 (by decide) (by decide) i (by omega)
    · have hl : ln 120 = 6 := by decide
      rw [fl_ne (by decide), hy, cpG_o (by decide), cpG_i, cpG_o (by decide), cpG_o (by decide), cpG_o (by decide), cpG_o (by decide), cpG_o (by decide), cpG_o (by decide), cpG_o (by decide), cpG_o (by decide), m1 _ (by decide), m1 _ (by decide)]
      by_cases g : 0 ≤ i ∧ i < 6
      · rw [if_pos g, nbk_20 g.1 g.2]
      · unfold nbk; rw [if_neg g, if_neg (by omega)]; exact hO 120 (by decide) (by decide) i (by omega)
    · have hl : ln 121 = 16 := by decide
      rw [fl_ne (by decide), hy, cpG_i, cpG_o (by decide), cpG_o (by decide), cpG_o (by decide), cpG_o (by decide), cpG_o (by decide), cpG_o (by decide), cpG_o (by decide), cpG_o (by decide), cpG_o (by decide), cpG_o (by decide), m1 _ (by decide), m1 _ (by decide)]
      by_cases g : 0 ≤ i ∧ i < 16
      · rw [if_pos g, nbk_21 g.1 g.2]
      · unfold nbk; rw [if_neg g, if_neg (by omega)]; exact hO 121 (by decide) (by decide) i (by omega)
