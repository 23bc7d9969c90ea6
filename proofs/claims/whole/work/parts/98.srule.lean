-- RULE: the whole text, and what holds after it
theorem rule_loop {N : Nat} {kx : iv_M → Option (Int × iv_M)} {kr : iv_M → Int → Option (Int × iv_M)} {b : Int → Int} {L sl : Int} {s0 r0 : iv_M} (hN : 1000 ≤ N) (hT : TX b L) (s00 : 0 ≤ sl) (s01 : sl < 6) : ∀ (m f : Nat) (R : List (List (Int × Int))) (c r : iv_M) (p x cmp cnt : Int), R.length + m = 12 → m + 1 < f → BD b L sl s0 r0 R c r p x cmp cnt → ∃ (k : Nat) (c' r' : iv_M) (n' ft : Int), (k : Int) ≤ 402 - x ∧ (∀ n, FX8_read_l54 N 57 kx (n + k) c 1 x = kx c') ∧ FX12_rule_l27 N 113 kr f r (R.length : Int) 1 = kr r' n' ∧ FrU sl r0 r' ∧ FrC s0 c' ∧ c' 58 4 = ft ∧ r' 113 30 = ft ∧ ((ft = 0 ∧ ∃ R', n' = (R'.length : Int) ∧ BE sl s0 r0 R' c' r') ∨ (0 < ft ∧ ft ≤ 10000)) := by
  intro m
  induction m with
  | zero =>
    intro f R c r p x cmp cnt hm hf h
    obtain ⟨f', rfl⟩ : ∃ f', f = f' + 1 + 1 := ⟨f - 2, by omega⟩
    rcases rule_step (f := f' + 1) (kx := kx) (kr := kr) hN hT s00 s01 (by omega) h with ⟨C, c', r', p', x', cmp', cnt', a1, _⟩ | ⟨C, c', r', k, a1, a2, a3, a4, a5, a6, a7⟩ | ⟨F, r', a1, a2, ⟨k, c', a3, a4, a5, a6⟩, a7, a8, a9⟩
    · omega
    · have := a7.2.1; rw [List.length_append] at this; simp at this; omega
    · refine ⟨k, c', r', (R.length : Int) + 1, F, a3, a4, ?_, a9, a6, a5, a8, Or.inr ⟨a1, a2⟩⟩
      rw [a7, FX12_rule_l27, if_pos rfl]
  | succ m ih =>
    intro f R c r p x cmp cnt hm hf h
    obtain ⟨f', rfl⟩ : ∃ f', f = f' + 1 + 1 := ⟨f - 2, by omega⟩
    rcases rule_step (f := f' + 1) (kx := kx) (kr := kr) hN hT s00 s01 (by omega) h with ⟨C, c', r', p', x', cmp', cnt', a1, ⟨k, e1, e2⟩, a3, a4⟩ | ⟨C, c', r', k, a1, a2, a3, a4, a5, a6, a7⟩ | ⟨F, r', a1, a2, ⟨k, c', a3, a4, a5, a6⟩, a7, a8, a9⟩
    · have hl : ((R ++ [C]).length : Int) = (R.length : Int) + 1 := by rw [List.length_append]; rfl
      obtain ⟨k2, c2, r2, n2, ft, b1, b2, b3, b4⟩ := ih (f' + 1) (R ++ [C]) c' r' p' x' cmp' cnt' (by rw [List.length_append]; simp; omega) (by omega) a4
      rw [hl] at b3
      exact ⟨k2 + k, c2, r2, n2, ft, by omega, fun n => by rw [← Nat.add_assoc, e2, b2], by rw [a3]; exact b3, b4⟩
    · refine ⟨k, c', r', (R.length : Int) + 1, 0, a1, a2, ?_, a6, a7.2.2.2.1, a3, a5, Or.inl ⟨rfl, R ++ [C], by rw [List.length_append]; rfl, a7⟩⟩
      rw [a4, FX12_rule_l27, if_pos rfl]
    · refine ⟨k, c', r', (R.length : Int) + 1, F, a3, a4, ?_, a9, a6, a5, a8, Or.inr ⟨a1, a2⟩⟩
      rw [a7, FX12_rule_l27, if_pos rfl]
def rIr (r : iv_M) (sl : Int) : iv_M := mu (mu (mu (mu (mu (mu r 113 31 sl) 113 29 0) 113 30 0) 113 33 0) 113 34 0) 113 35 0
theorem rIr_o {r : iv_M} {sl : Int} {a : Nat} (h : a ≠ 113) : rIr r sl a = r a := by unfold rIr; rw [mu_rw h, mu_rw h, mu_rw h, mu_rw h, mu_rw h, mu_rw h]
theorem rIr_i {r : iv_M} {sl i : Int} : rIr r sl 113 i = if i = 29 ∨ i = 30 ∨ i = 33 ∨ i = 34 ∨ i = 35 then 0 else if i = 31 then sl else r 113 i := by
  unfold rIr mu
  by_cases a2 : i = 35
  · rw [if_pos ⟨rfl, a2⟩, if_pos (by omega)]
  rw [if_neg (fun z => a2 z.2)]
  by_cases a3 : i = 34
  · rw [if_pos ⟨rfl, a3⟩, if_pos (by omega)]
  rw [if_neg (fun z => a3 z.2)]
  by_cases a4 : i = 33
  · rw [if_pos ⟨rfl, a4⟩, if_pos (by omega)]
  rw [if_neg (fun z => a4 z.2)]
  by_cases a5 : i = 30
  · rw [if_pos ⟨rfl, a5⟩, if_pos (by omega)]
  rw [if_neg (fun z => a5 z.2)]
  by_cases a6 : i = 29
  · rw [if_pos ⟨rfl, a6⟩, if_pos (by omega)]
  rw [if_neg (fun z => a6 z.2)]
  by_cases a7 : i = 31
  · rw [if_pos ⟨rfl, a7⟩, if_neg (by omega), if_pos a7]
  · rw [if_neg (fun z => a7 z.2), if_neg (by omega), if_neg a7]
theorem rule_both {N : Nat} {s r : iv_M} {b : Int → Int} {L sl : Int} {kr : iv_M → Int → Option (Int × iv_M)} (hN : 1000 ≤ N) (hT : TX b L) (s00 : 0 ≤ sl) (s01 : sl < 6) (hs : ∀ i, 0 ≤ i → i < L → s 1 i = b i) (hrL : r 113 28 = L) (hr : ∀ i, 0 ≤ i → i < L → r 139 i = b i) (h37 : r 113 37 = 13) : ∃ (sc sr : iv_M) (n ft : Int), FX8_read N s 57 1 L = some (sc 58 4, sc) ∧ FX12_rule_l27 N 113 kr N (rIr r sl) 0 1 = kr sr n ∧ FrC s sc ∧ FrU sl (rIr r sl) sr ∧ sc 58 4 = ft ∧ sr 113 30 = ft ∧ ((ft = 0 ∧ ∃ R, n = (R.length : Int) ∧ BE sl s (rIr r sl) R sc sr) ∨ (0 < ft ∧ ft ≤ 10000)) := by
  have hL := hT.2.1
  have l0 := hT.1
  obtain ⟨y, hy⟩ : ∃ y, y = mu (mu (mu (mu (mu s 58 0 1) 58 1 L) 58 2 0) 58 3 0) 58 4 0 := ⟨_, rfl⟩
  obtain ⟨z, hz⟩ : ∃ z, z = mu (mu (mu (mu (mu (mu (mu (mu y 57 2 0) 57 4 0) 57 5 0) 57 6 0) 57 7 0) 57 8 0) 57 9 0) 57 10 0 := ⟨_, rfl⟩
  have yo : ∀ a, a ≠ 58 → y a = s a := fun a h2 => by rw [hy, mu_rw h2, mu_rw h2, mu_rw h2, mu_rw h2, mu_rw h2]
  have zo : ∀ a, a ≠ 57 → z a = y a := fun a h2 => by rw [hz, mu_rw h2, mu_rw h2, mu_rw h2, mu_rw h2, mu_rw h2, mu_rw h2, mu_rw h2, mu_rw h2]
  have zR : RD z 58 b L 0 0 0 := by
    refine ⟨?_, ?_, ?_, ?_, ?_, by decide, fun i i0 i1 => by rw [zo 1 (by decide), yo 1 (by decide)]; exact hs i i0 i1⟩
    · rw [zo 58 (by decide), hy]; simp (disch := omega) only [mu_ne, mu_eq]
    · rw [zo 58 (by decide), hy]; simp (disch := omega) only [mu_ne, mu_eq]
    · rw [zo 58 (by decide), hy]; simp (disch := omega) only [mu_ne, mu_eq]
    · rw [zo 58 (by decide), hy]; simp (disch := omega) only [mu_ne, mu_eq]
    · rw [zo 58 (by decide), hy]; simp (disch := omega) only [mu_eq]
  have zK : CK z (rco []) [] 0 0 (([] : List (List (Int × Int))).length : Int) 0 0 0 := by
    refine ⟨⟨?_, trivial⟩, ⟨?_, trivial⟩, ?_, ?_, ?_, ?_, ?_, ?_⟩
    · rw [hz]; simp (disch := omega) only [mu_ne, mu_eq]; rfl
    · rw [hz]; simp (disch := omega) only [mu_ne, mu_eq]; rfl
    · rw [hz]; simp (disch := omega) only [mu_ne, mu_eq]
    · rw [hz]; simp (disch := omega) only [mu_ne, mu_eq]
    · rw [hz]; simp (disch := omega) only [mu_ne, mu_eq]; rfl
    · rw [hz]; simp (disch := omega) only [mu_ne, mu_eq]
    · rw [hz]; simp (disch := omega) only [mu_ne, mu_eq]
    · rw [hz]; simp (disch := omega) only [mu_eq]
  have hRT : RT (rIr r sl) b L 0 0 := ⟨by rw [rIr_i, if_neg (by omega), if_neg (by omega)]; exact hrL, by rw [rIr_i, if_pos (by omega)], by rw [rIr_i, if_pos (by omega)], fun i i0 i1 => by rw [rIr_o (by decide)]; exact hr i i0 i1⟩
  have B0 : BD b L sl s (rIr r sl) [] z (rIr r sl) 0 0 0 0 := ⟨⟨⟨0, zR⟩, zK, fun a x1 x2 _ _ => by rw [zo a x1, yo a x2]⟩, ⟨hRT, ⟨by rw [rIr_i, if_neg (by omega), if_pos rfl], ⟨by rw [rIr_i, if_pos (by omega)]; rfl, trivial⟩, by rw [rIr_i, if_pos (by omega)], by rw [rIr_i, if_pos (by omega)], by rw [rIr_i, if_neg (by omega), if_neg (by omega)]; exact h37, trivial⟩, (FrR.refl (sl := sl)).u⟩, ⟨by omega, by omega, l0⟩, ⟨0, by omega, by omega, by show (0 : Int) ≤ 2 * 0 + 0; omega⟩, by show ((0 : Nat) : Int) ≤ 0; omega, ⟨by omega, by omega⟩, fun C hC => by cases hC⟩
  obtain ⟨k, sc, sr, n, ft, a1, a2, a3, a4, a5, a6, a7, a8⟩ := rule_loop (kx := fun (s_1390 : iv_M) => (FX8_read_b102 N s_1390 57)) (kr := kr) hN hT s00 s01 12 N [] z (rIr r sl) 0 0 0 0 (by decide) (by omega) B0
  refine ⟨sc, sr, n, ft, ?_, a3, a5, a4, a6, a7, a8⟩
  obtain ⟨f, hf⟩ : ∃ f, N = f + k := ⟨N - k, by omega⟩
  have st := a2 f
  rw [← hf] at st
  unfold FX8_read FX6_open
  simp only [Nat.reduceAdd]
  have s1 : ((sh 1).2 : Int) = 400 := by decide
  have mn : mnI L 400 = L := by unfold mnI; rw [if_neg (by omega)]
  have c1 : ((1 : Nat) : Int) = 1 := rfl
  rw [pt_ok, Option.bind_some, pt_ok, Option.bind_some, pt_ok, Option.bind_some, pt_ok, Option.bind_some, pt_ok, Option.bind_some, Option.bind_some, pt_ok, Option.bind_some, pt_ok, Option.bind_some, pt_ok, Option.bind_some, pt_ok, Option.bind_some, pt_ok, Option.bind_some, pt_ok, Option.bind_some, pt_ok, Option.bind_some, pt_ok, Option.bind_some, s1, mn, c1, ← hy, ← hz]
  refine st.trans ?_
  unfold FX8_read_b102
  rfl
-- rules told earlier stay
theorem EN_slot {s s' : iv_M} {f : Int} (h : ∀ j, 300 * f ≤ j → j < 300 * f + 300 → s' 140 j = s 140 j ∧ s' 141 j = s 141 j) : ∀ (B : List (Int × Int)) (i : Int), 0 ≤ i → i + B.length ≤ 300 → EN s f i B → EN s' f i B := by
  intro B
  induction B with
  | nil => intro i _ _ _; trivial
  | cons e es ih =>
    intro i i0 i1 hE
    have hl : ((e :: es).length : Int) = (es.length : Int) + 1 := by simp
    obtain ⟨a, b⟩ := h (300 * f + i) (by omega) (by omega)
    exact ⟨by rw [a]; exact hE.1, by rw [b]; exact hE.2.1, ih (i + 1) (by omega) (by omega) hE.2.2⟩
theorem RC_slot {s s' : iv_M} {f : Int} (h : ∀ j, 300 * f ≤ j → j < 300 * f + 300 → s' 140 j = s 140 j ∧ s' 141 j = s 141 j) (h2 : ∀ j, 12 * f ≤ j → j < 12 * f + 12 → s' 143 j = s 143 j ∧ s' 144 j = s 144 j) : ∀ (R : List (List (Int × Int))) (n p : Int), 0 ≤ n → n + R.length ≤ 12 → 0 ≤ p → p + R.flatten.length ≤ 300 → RC s f n p R → RC s' f n p R := by
  intro R
  induction R with
  | nil => intro n p _ _ _ _ _; trivial
  | cons c cs ih =>
    intro n p n0 n1 p0 p1 hR
    have hl : ((c :: cs).length : Int) = (cs.length : Int) + 1 := by simp
    have hf : ((c :: cs).flatten.length : Int) = (c.length : Int) + (cs.flatten.length : Int) := by rw [List.flatten_cons, List.length_append]; omega
    obtain ⟨a, b⟩ := h2 (12 * f + n) (by omega) (by omega)
    exact ⟨by rw [a]; exact hR.1, by rw [b]; exact hR.2.1, EN_slot h c p p0 (by omega) hR.2.2.1, ih (n + 1) _ (by omega) (by omega) (by omega) (by omega) hR.2.2.2⟩
theorem RUL_slot {s s' : iv_M} {f : Int} {R : List (List (Int × Int))} (h : ∀ j, 300 * f ≤ j → j < 300 * f + 300 → s' 140 j = s 140 j ∧ s' 141 j = s 141 j) (h2 : ∀ j, 12 * f ≤ j → j < 12 * f + 12 → s' 143 j = s 143 j ∧ s' 144 j = s 144 j) (h3 : s' 142 f = s 142 f) (h4 : s' (3 + f.toNat) = s (3 + f.toNat)) (hR : RUL s f R) : RUL s' f R := by
  obtain ⟨a1, a2, a3, a4, a5, a6, a7, a8, a9, a10⟩ := hR
  exact ⟨a1, a2, RC_slot h h2 R 0 0 (by omega) (by omega) (by omega) (by omega) a3, by rw [h3]; exact a4, a5, a6, CE_ext h4 _ _ a7, a8, by rw [h4]; exact a9, a10⟩
/-- the rows that rule() leaves alone -/
def FrX (sl : Int) (s s2 : iv_M) : Prop := (∀ a, a ≠ 0 → a ≠ 57 → a ≠ 58 → a ≠ 60 → a ≠ 61 → a ≠ 113 → a ≠ 140 → a ≠ 141 → a ≠ 142 → a ≠ 143 → a ≠ 144 → a ≠ 145 → a ≠ 3 + sl.toNat → s2 a = s a) ∧ (∀ j, ¬ (300 * sl ≤ j ∧ j < 300 * sl + 300) → s2 140 j = s 140 j ∧ s2 141 j = s 141 j) ∧ (∀ j, ¬ (12 * sl ≤ j ∧ j < 12 * sl + 12) → s2 143 j = s 143 j ∧ s2 144 j = s 144 j) ∧ (∀ j, j ≠ sl → s2 142 j = s 142 j) ∧ (∀ i, i ≠ 1 → i ≠ 3 → s2 0 i = s 0 i) ∧ ∀ i, (i = 37 ∨ i = 56) → s2 113 i = s 113 i
theorem Inv_rule {t : Int} {s s2 : iv_M} (hI : Inv t s) (hF : FrX (s 0 3) s s2) (h6 : s 0 3 < 6) (hT : Tp s2) (h03 : (s2 0 3 = s 0 3 ∨ (s2 0 3 = s 0 3 + 1 ∧ ∃ R, RUL s2 (s 0 3) R)) ∧ s2 113 32 = s2 0 3) : Inv (t + 1) s2 := by
  have hI' := HR1_mono (t' := t + 1) (by omega) hI
  obtain ⟨h1, h2, h3, h4, h5, h6', h7, h8, h9, h10⟩ := hI'
  obtain ⟨fa, fb, fc, fd, fe, ff⟩ := hF
  obtain ⟨n1, n2, n3⟩ := now_ne h1
  obtain ⟨a1, a2, a3, a4, a5⟩ := id h5
  have sl8 : 3 + (s 0 3).toNat ≤ 8 := by omega
  have hn : now s2 = now s := by unfold now; rw [fe 4 (by omega) (by omega)]
  have fo : ∀ a, 9 ≤ a → a ≠ 57 → a ≠ 58 → a ≠ 60 → a ≠ 61 → a ≠ 113 → (a < 140 ∨ 145 < a) → s2 a = s a := fun a x0 x1 x2 x3 x4 x5 x6 => fa a (by omega) x1 x2 x3 x4 x5 (by omega) (by omega) (by omega) (by omega) (by omega) (by omega) (by omega)
  have hE : Eb s s2 := fun a b0 b1 => fo a (by omega) (by omega) (by omega) (by omega) (by omega) (by omega) (by omega)
  have slot : ∀ f R, 0 ≤ f → f < s 0 3 → (RUL s f R ↔ RUL s2 f R) := fun f R f0 f1 => by
    have q1 : ∀ j, 300 * f ≤ j → j < 300 * f + 300 → s2 140 j = s 140 j ∧ s2 141 j = s 141 j := fun j j0 j1 => fb j (by omega)
    have q2 : ∀ j, 12 * f ≤ j → j < 12 * f + 12 → s2 143 j = s 143 j ∧ s2 144 j = s 144 j := fun j j0 j1 => fc j (by omega)
    have q3 : s2 142 f = s 142 f := fd f (by omega)
    have q4 : s2 (3 + f.toNat) = s (3 + f.toNat) := fa _ (by omega) (by omega) (by omega) (by omega) (by omega) (by omega) (by omega) (by omega) (by omega) (by omega) (by omega) (by omega) (by omega)
    exact ⟨fun hR => RUL_slot q1 q2 q3 q4 hR, fun hR => RUL_slot (fun j j0 j1 => ⟨(q1 j j0 j1).1.symm, (q1 j j0 j1).2.symm⟩) (fun j j0 j1 => ⟨(q2 j j0 j1).1.symm, (q2 j j0 j1).2.symm⟩) q3.symm q4.symm hR⟩
  have ruo : ∀ ru, RUO s2 (s 114 12) ru → RUO s (s 114 12) ru := fun ru hr => by
    rcases hr with u | ⟨u0, u1, R, u2, u3⟩
    · exact Or.inl u
    · exact Or.inr ⟨u0, u1, R, u2, (slot _ R u0 a4).mpr u3⟩
  have her := Er.of_eb hE
  refine ⟨?_, ?_, WH_eb hE h3, hT, ⟨h03.2.symm, ?_, ?_, ?_, fun f f0 f1 => ?_⟩, fun k k0 k1 => ?_, ?_, ?_, ?_, ?_⟩
  · unfold NowS at h1 ⊢; rw [fe 4 (by omega) (by omega), fe 5 (by omega) (by omega)]; exact h1
  · rw [hn]; exact HR_eb hE (HR_ext (fun a x y => fo a (by omega) (by omega) (by omega) (by omega) (by omega) (by omega) (by omega)) h2)
  · rcases h03.1 with u | u <;> omega
  · rcases h03.1 with u | u <;> omega
  · rw [hE 114 (by omega) (by omega)]; rcases h03.1 with u | u <;> omega
  · by_cases g : f < s 0 3
    · obtain ⟨R, hR⟩ := a5 f f0 g
      exact ⟨R, (slot f R f0 g).mp hR⟩
    · rcases h03.1 with u | ⟨u, v⟩
      · omega
      · have : f = s 0 3 := by omega
        rw [this]; exact v
  · have hi : img s2 k = img s k := by funext a i; unfold img; rw [fo 172 (by omega) (by omega) (by omega) (by omega) (by omega) (by omega) (by omega)]
    unfold Im1
    rw [fo 173 (by omega) (by omega) (by omega) (by omega) (by omega) (by omega) (by omega), fo 53 (by omega) (by omega) (by omega) (by omega) (by omega) (by omega) (by omega), hi]
    rcases h6' k k0 k1 with z | ⟨z1, q, z2, z3, z4, z5, z6, z7, z8⟩
    · left; exact z
    · right; exact ⟨z1, q, z2, z3, z4, HR_ext (fun a x y => fo a (by omega) (by omega) (by omega) (by omega) (by omega) (by omega) (by omega)) z5, z6, by rcases h03.1 with u | u <;> omega, z8⟩
  · obtain ⟨m1, m2, m3⟩ := h7
    have r64 := fo 64 (by omega) (by omega) (by omega) (by omega) (by omega) (by omega) (by omega)
    refine ⟨by rw [r64]; exact m1, by rw [r64, fe 15 (by omega) (by omega)]; exact m2, fun q ru hru => ?_⟩
    rw [r64, fe 15 (by omega) (by omega)] at q
    rw [hE 114 (by omega) (by omega)] at hru
    have := m3 q ru (ruo ru hru)
    rw [r64, fo 80 (by omega) (by omega) (by omega) (by omega) (by omega) (by omega) (by omega), er_srch her, hE 114 (by omega) (by omega)]
    exact this
  · obtain ⟨m1, m2, m3⟩ := h8
    have r81 := fo 81 (by omega) (by omega) (by omega) (by omega) (by omega) (by omega) (by omega)
    refine ⟨by rw [r81]; exact m1, by rw [r81, fe 15 (by omega) (by omega)]; exact m2, fun q ru hru => ?_⟩
    rw [r81, fe 15 (by omega) (by omega)] at q
    rw [hE 114 (by omega) (by omega)] at hru
    have := m3 q ru (ruo ru hru)
    rw [r81, fo 96 (by omega) (by omega) (by omega) (by omega) (by omega) (by omega) (by omega), fo 97 (by omega) (by omega) (by omega) (by omega) (by omega) (by omega) (by omega), er_rowsL _ _ _ her]
    exact this
  · unfold Mk at h9 ⊢; rw [fe 15 (by omega) (by omega), ff 37 (by omega), ff 56 (by omega), fo 153 (by omega) (by omega) (by omega) (by omega) (by omega) (by omega) (by omega)]; exact h9
  · intro a b0 b1 i hi; rw [hE a b0 b1]; exact h10 a b0 b1 i hi
