-- ROWS OF WALKS: the reference
def RrP (x : iv_M) (pre : List (Int × Int)) : Prop := ∀ l : Nat, l < pre.length → x 168 l = (gP pre l).2 ∧ x 169 l = (gP pre l).1 ∧ 0 ≤ (gP pre l).2 ∧ (gP pre l).2 < 204
def Rf2 (s x : iv_M) : Prop := (∀ a, a ≠ 113 → (a < 114 ∨ 131 < a) → a ≠ 146 → a ≠ 147 → (a < 168 ∨ 171 < a) → x a = s a) ∧ ∀ j, j ≠ 26 → j ≠ 27 → j ≠ 48 → j ≠ 78 → x 113 j = s 113 j
theorem Rf2.refl {s : iv_M} : Rf2 s s := ⟨fun _ _ _ _ _ _ => rfl, fun _ _ _ _ _ => rfl⟩
theorem Rf2.trans {s x y : iv_M} (h : Rf2 s x) (h2 : Rf2 x y) : Rf2 s y := ⟨fun a z0 z1 z2 z3 z4 => by rw [h2.1 a z0 z1 z2 z3 z4, h.1 a z0 z1 z2 z3 z4], fun j z0 z1 z2 z3 => by rw [h2.2 j z0 z1 z2 z3, h.2 j z0 z1 z2 z3]⟩
theorem Scr.rf2 {s x : iv_M} (h : Scr s x) : Rf2 s x := ⟨fun a z0 _ z2 z3 _ => h.1 a z0 z2 z3, fun j z0 z1 z2 _ => h.2 j z0 z1 z2⟩
theorem mu_rf2 {s x : iv_M} {a : Nat} {i v : Int} (h : Rf2 s x) (ha : (114 ≤ a ∧ a ≤ 131) ∨ (168 ≤ a ∧ a ≤ 171)) : Rf2 s (mu x a i v) := ⟨fun c z0 z1 z2 z3 z4 => by rw [mu_rw (by omega), h.1 c z0 z1 z2 z3 z4], fun j z0 z1 z2 z3 => by rw [mu_rw (by omega), h.2 j z0 z1 z2 z3]⟩
theorem wlk_rf2 {s x : iv_M} {k r o : Int} (h : Rf2 s x) : Rf2 s (wlk x k r o) := ⟨fun c z0 z1 z2 z3 z4 => by rw [wlk_row (by omega) (by omega) (by omega), h.1 c z0 z1 z2 z3 z4], fun j z0 z1 z2 z3 => by rw [wlk_row (by omega) (by omega) (by omega), h.2 j z0 z1 z2 z3]⟩
theorem blk_rf2 {s x Q : iv_M} (h : Rf2 s x) : Rf2 s (blk Q x) := ⟨fun c z0 z1 z2 z3 z4 => by rw [blk_out (by omega), h.1 c z0 z1 z2 z3 z4], fun j z0 z1 z2 z3 => by rw [blk_out (by omega), h.2 j z0 z1 z2 z3]⟩
theorem notes_ok {N : Nat} {x : iv_M} {p : List (Int × Int)} {A : List (List (Int × Int))} (hN : 100 ≤ N) (hp : p.length ≤ 3) (hT : Tot (x 113 78) (x 171) (x 170) p.length A) (hA : A.length ≤ 4000000) (hl : RrP x p) : ∃ x', FX12_notesRow N x 113 (p.length : Int) = some x' ∧ Tot (x' 113 78) (x' 171) (x' 170) p.length (A ++ [p]) ∧ (∀ a, a ≠ 113 → a ≠ 170 → a ≠ 171 → x' a = x a) ∧ ∀ i, i ≠ 78 → x' 113 i = x 113 i := by
  have hT' := hT
  obtain ⟨t1, t2, t3, t4⟩ := hT'
  have tb := fun k => kcn_le (k := k) A t4
  have tb3 : ∀ k, 0 ≤ kcn k A ∧ kcn k A ≤ 12000000 := fun k => by
    obtain ⟨u1, u2⟩ := tb k
    have : (p.length : Int) * A.length ≤ 3 * A.length := Int.mul_le_mul_of_nonneg_right (by omega) (by omega)
    omega
  obtain ⟨y, y1, y2⟩ := loop_up (L := fun m z i => FX12_notesRow_l2 N 113 (p.length : Int) (fun (s_4272 : iv_M) => ((pt s_4272 113 78 (w32 ((s_4272 113 78) + 1))).bind fun s_4275 => some s_4275)) m z i) (k := (fun (s_4272 : iv_M) => ((pt s_4272 113 78 (w32 ((s_4272 113 78) + 1))).bind fun s_4275 => some s_4275))) (hi := (p.length : Int)) (fun j z => 0 ≤ j ∧ (∀ k, 1 ≤ k → k ≤ 3 → z 171 k = x 171 k + su (kf p k) j.toNat) ∧ (A = [] → ∀ i : Nat, (i : Int) < j → z 170 i = (gP p i).1) ∧ (A ≠ [] → ∀ i : Nat, z 170 i = x 170 i) ∧ ∀ a, a ≠ 170 → a ≠ 171 → z a = x a) (fun m z hz => by
      show FX12_notesRow_l2 N 113 (p.length : Int) _ (m + 1) z (p.length : Int) = _
      rw [FX12_notesRow_l2, if_pos (by omega)]) (fun m j z hz hj => by
      obtain ⟨j0, z2, z3, z4, z5⟩ := hz
      obtain ⟨jn, rfl⟩ := Int.eq_ofNat_of_zero_le j0
      obtain ⟨l1, l2, l4, l5⟩ := hl jn (by omega)
      obtain ⟨q1, q2, _⟩ := cc_rng l4 l5
      have sb := su_kf_le (p := p) (k := cK (gP p jn).2) jn
      have tv := tb3 (cK (gP p jn).2)
      have tv2 := t2 (cK (gP p jn).2) q1 q2
      have hk := z2 (cK (gP p jn).2) q1 q2
      rw [Int.toNat_natCast] at hk
      have s78 : z 113 78 = x 113 78 := by rw [z5 113 (by omega) (by omega)]
      have s68 : z 168 jn = (gP p jn).2 := by rw [z5 168 (by omega) (by omega)]; exact l1
      have s69 : z 169 jn = (gP p jn).1 := by rw [z5 169 (by omega) (by omega)]; exact l2
      have hsh : ((sh 170).2 : Int) = 3 := by decide
      have b34 : ∀ v, FX12_notesRow_b34 N z 113 (p.length : Int) (jn : Int) v (jn : Int) 170 (FX12_notesRow_l2 N 113 (p.length : Int) (fun (s_4272 : iv_M) => ((pt s_4272 113 78 (w32 ((s_4272 113 78) + 1))).bind fun s_4275 => some s_4275)) m) (fun (s_4272 : iv_M) => ((pt s_4272 113 78 (w32 ((s_4272 113 78) + 1))).bind fun s_4275 => some s_4275)) = FX12_notesRow_l2 N 113 (p.length : Int) (fun (s_4272 : iv_M) => ((pt s_4272 113 78 (w32 ((s_4272 113 78) + 1))).bind fun s_4275 => some s_4275)) m (mu (mu z 170 jn v) 171 (cK (gP p jn).2) (z 171 (cK (gP p jn).2) + 1)) ((jn : Int) + 1) := fun v => by
        unfold FX12_notesRow_b34
        simp only [Nat.reduceAdd]
        rw [hsh, wr_ok (by omega) (by omega), Option.bind_some, rd_ok (by omega) (by omega), Option.bind_some, mu_ne (by omega), s68, (kind_ok l4 l5).1, Option.bind_some, rd_ok (by omega) (by omega), Option.bind_some, mu_ne (by omega), w32_id (x := z 171 (cK (gP p jn).2) + 1) (by omega) (by omega), wr_ok (by omega) (by omega), Option.bind_some, w32_id (by omega) (by omega)]
      have wk : ∀ v k, 1 ≤ k → k ≤ 3 → mu (mu z 170 jn v) 171 (cK (gP p jn).2) (z 171 (cK (gP p jn).2) + 1) 171 k = x 171 k + su (kf p k) ((jn : Int) + 1).toNat := fun v k k0 k1 => by
        rw [show ((jn : Int) + 1).toNat = jn + 1 by omega]
        show _ = x 171 k + (su (kf p k) jn + kf p k jn)
        have z2k := z2 k k0 k1
        rw [Int.toNat_natCast] at z2k
        by_cases e : k = cK (gP p jn).2
        · subst e; rw [mu_eq, z2k]; unfold kf; rw [if_pos rfl]; omega
        · rw [mu_ne (by omega), mu_ne (by omega), z2k]
          have : kf p k jn = 0 := by unfold kf; rw [if_neg (fun q => e q.symm)]
          omega
      show ∃ z', FX12_notesRow_l2 N 113 (p.length : Int) (fun (s_4272 : iv_M) => ((pt s_4272 113 78 (w32 ((s_4272 113 78) + 1))).bind fun s_4275 => some s_4275)) (m + 1) z (jn : Int) = FX12_notesRow_l2 N 113 (p.length : Int) (fun (s_4272 : iv_M) => ((pt s_4272 113 78 (w32 ((s_4272 113 78) + 1))).bind fun s_4275 => some s_4275)) m z' ((jn : Int) + 1) ∧ _
      rw [FX12_notesRow_l2, if_neg (by omega), s78]
      simp only [Nat.reduceAdd]
      by_cases e : x 113 78 = 0
      · have hAe : A = [] := List.eq_nil_of_length_eq_zero (by omega)
        rw [if_pos e, rd_ok (by omega) (by omega), Option.bind_some, s69, b34]
        refine ⟨_, rfl, by omega, wk _, fun _ i hi => ?_, fun q => absurd hAe q, fun a a1 a2 => by rw [mu_rw a2, mu_rw a1]; exact z5 a a1 a2⟩
        rw [mu_ne (by omega)]
        by_cases ei : (i : Int) = jn
        · rw [ei, mu_eq]
        · rw [mu_ne (by omega)]; exact z3 hAe i (by omega)
      · have hAe : A ≠ [] := fun q => by rw [q] at t1; exact e t1
        rw [if_neg e, rd_ok (by omega) (by omega), Option.bind_some, b34]
        refine ⟨_, rfl, by omega, wk _, fun q => absurd q hAe, fun _ i => ?_, fun a a1 a2 => by rw [mu_rw a2, mu_rw a1]; exact z5 a a1 a2⟩
        rw [mu_ne (by omega)]
        by_cases ei : (i : Int) = jn
        · rw [ei, mu_eq]
          have := z4 hAe jn
          exact this
        · rw [mu_ne (by omega)]; exact z4 hAe i) N 0 x ⟨by omega, fun k k0 k1 => by show _ = x 171 k + 0; omega, fun _ i hi => by omega, fun _ i => rfl, fun a a1 a2 => rfl⟩ (by omega) (by omega)
  obtain ⟨_, y4, y5, y6, y7⟩ := y1
  have y78 : y 113 78 = x 113 78 := by rw [y7 113 (by omega) (by omega)]
  refine ⟨mu y 113 78 (x 113 78 + 1), ?_, ?_, fun a a1 a2 a3 => by rw [mu_rw a1]; exact y7 a a2 a3, fun i hi => by rw [mu_ne (by omega), y7 113 (by omega) (by omega)]⟩
  · unfold FX12_notesRow
    refine y2.trans ?_
    show ((pt y 113 78 (w32 ((y 113 78) + 1))).bind fun s_4275 => some s_4275) = _
    rw [y78, w32_id (by omega) (by omega), pt_ok, Option.bind_some]
  · refine Tot_snoc hT rfl mu_eq (fun k k0 k1 => by rw [mu_ne (by omega)]; have := y4 k k0 k1; rw [Int.toNat_natCast] at this; exact this) (fun hA j hj => by rw [mu_ne (by omega)]; exact y5 hA j (by omega)) (fun hA j _ => by rw [mu_ne (by omega)]; exact y6 hA j)
/-- where a level came from -/
def Par (ru : Option (List (List (Int × Int)))) (Q P : iv_M) (L : Nat) (x : iv_M) : Prop := (L = 0 ∧ Q = P) ∨ (0 < L ∧ ∃ c, Wf Q ∧ (0 ≤ c ∧ c < 204) ∧ okc ru Q c ∧ P = wkc Q c ∧ x 168 ((L : Int) - 1) = c)
theorem stepsBack_ok {N L : Nat} {ru : Option (List (List (Int × Int)))} {x P Q : iv_M} (hL : L ≤ 3) (hp : Par ru Q P L x) (hE : Eb P x) : FX12_stepsBack N x 113 (L : Int) = some ((L : Int) - 1, blk Q x) := by
  unfold FX12_stepsBack FX12_stepsBack_b16
  simp only [Nat.reduceAdd]
  rw [w32_id (by omega) (by omega)]
  rcases hp with ⟨h0, hQ⟩ | ⟨h0, c, hW, hc, hok, hP, hx⟩
  · rw [if_pos (by omega), hQ, blk_self hE]
  · have hdb := FX12_doesBack_ok (N := N) (s := x) (B := Q) (ru := ru) (by rw [← hx] at hP; rw [hP] at hE; rw [hx] at hE; exact hE) hW hc.1 hc.2 hok
    rw [if_neg (by omega), rd_ok (by omega) (by omega), Option.bind_some, hx, hdb, Option.bind_some]
def bdR : Nat → Nat
  | 0 => 1
  | r + 1 => 204 * (1 + bdR r) + 1
theorem okl_c {ru : Option (List (List (Int × Int)))} {P : iv_M} {c : Nat} : okl ru P (c + 1) = if okc ru P c then okl ru P c ++ [(c : Int)] else okl ru P c := rfl
theorem fRows_ok {N n : Nat} {ru : Option (List (List (Int × Int)))} {s B : iv_M} {m : Int} {kx : iv_M → Option iv_M} (hN : 1000 ≤ N) (hn : n ≤ 3) (hB : WHm m B) (hR : RUO s (B 114 12) ru) : ∀ (r : Nat) (x P Q : iv_M) (pre : List (Int × Int)) (A : List (List (Int × Int))), pre.length + r = n → Lok m B P → Eb P x → Par ru Q P pre.length x → RrP x pre → (r ≠ 0 → x 168 pre.length = -1 ∧ x 169 pre.length = -1) → Tot (x 113 78) (x 171) (x 170) n A → A.length + (rowsL ru r P).length ≤ 3000000 → Rf2 s x → ∃ K x', K ≤ bdR r ∧ (∀ f, FX12_findsRows_l41 N 113 (n : Int) kx (f + K) x (pre.length : Int) = FX12_findsRows_l41 N 113 (n : Int) kx f x' ((pre.length : Int) - 1)) ∧ Eb Q x' ∧ Tot (x' 113 78) (x' 171) (x' 170) n (A ++ extR pre (rowsL ru r P)) ∧ Rf2 s x' ∧ ∀ l : Nat, l < pre.length → x' 168 l = x 168 l ∧ x' 169 l = x 169 l := by
  intro r
  induction r with
  | zero =>
    intro x P Q pre A hpl hL hE hQ hpc _ hT hA hf
    have hpn : pre.length = n := by omega
    have e10 : P 114 10 = B 114 10 := hL.2.2.1 10 (by omega)
    have w30 : P 130 = B 130 := hL.2.2.2.1 130 (by omega)
    have e2 : P 114 2 = B 114 2 := hL.2.2.1 2 (by omega)
    have wk := isAsWoken_ok (N := N) (x := x) (P := P) (by omega) hE (by rw [e10]; exact hB.2.1.2.2.2.2.2.2.2.1) hL.1.1.1.2.2.2.2.2.1 (fun j j0 j1 => by rw [w30, e2]; exact (hB.2.2.2.2.2.2.2.2.2 j j0 (by rw [← e10]; exact j1)).1)
    have hr0 : rowsL ru 0 P = if wkn P (P 114 10).toNat = true then [[]] else [] := rfl
    rw [hr0]
    by_cases e : wkn P (P 114 10).toNat = true
    · obtain ⟨y, t1, t2, t3, t4⟩ := notes_ok (N := N) (x := x) (p := pre) (A := A) (by omega) (by omega) (by rw [hpn]; exact hT) (by omega) hpc
      have hEy : Eb P y := fun a z0 z1 => by rw [t3 a (by omega) (by omega) (by omega), hE a z0 z1]
      have hQy : Par ru Q P pre.length y := by
        rcases hQ with z | ⟨z0, c, z1, z2, z3, z4, z5⟩
        · exact Or.inl z
        · exact Or.inr ⟨z0, c, z1, z2, z3, z4, by rw [t3 168 (by omega) (by omega) (by omega)]; exact z5⟩
      have sb := stepsBack_ok (N := N) (by omega) hQy hEy
      rw [hpn] at t1 t2
      refine ⟨1, blk Q y, Nat.le_refl _, fun f => ?_, eb_blk, ?_, blk_rf2 ⟨fun a z0 z1 z2 z3 z4 => by rw [t3 a z0 (by omega) (by omega), hf.1 a z0 z1 z2 z3 z4], fun j z0 z1 z2 z3 => by rw [t4 j z3, hf.2 j z0 z1 z2 z3]⟩, fun l hl => by rw [blk_out (by omega), blk_out (by omega), t3 168 (by omega) (by omega) (by omega), t3 169 (by omega) (by omega) (by omega)]; exact ⟨rfl, rfl⟩⟩
      · rw [FX12_findsRows_l41, if_neg (by omega), if_pos (by omega), wk, Option.bind_some, if_pos e, if_neg (by omega), t1, Option.bind_some]
        unfold FX12_findsRows_b62
        rw [sb, Option.bind_some]
      · rw [if_pos e, blk_out (by omega), blk_out (by omega), blk_out (by omega)]
        have : extR pre [[]] = [pre] := by unfold extR; simp
        rw [this]; exact t2
    · have sb := stepsBack_ok (N := N) (by omega) hQ hE
      refine ⟨1, blk Q x, Nat.le_refl _, fun f => ?_, eb_blk, ?_, blk_rf2 hf, fun l hl => by rw [blk_out (by omega), blk_out (by omega)]; exact ⟨rfl, rfl⟩⟩
      · rw [FX12_findsRows_l41, if_neg (by omega), if_pos (by omega), wk, Option.bind_some, if_neg e, if_pos rfl]
        unfold FX12_findsRows_b62
        rw [sb, Option.bind_some]
      · rw [if_neg e, blk_out (by omega), blk_out (by omega), blk_out (by omega), show extR pre [] = [] from rfl, List.append_nil]; exact hT
  | succ r ih =>
    intro x P Q pre A hpl hL hE hQ hpc hst hT hA hf
    obtain ⟨L, hLd⟩ : ∃ L, L = pre.length := ⟨_, rfl⟩
    rw [← hLd] at hpl hQ hst ⊢
    have hL3 : L < 3 := by omega
    have L0 : (0 : Int) ≤ (L : Int) := by omega
    have L4 : (L : Int) < 4 := by omega
    have M0 : (0 : Int) ≤ (L : Int) + 1 := by omega
    have M4 : (L : Int) + 1 < 4 := by omega
    have hW := hL.1.1
    have e12 : P 114 12 = B 114 12 := hL.2.2.1 12 (by omega)
    have hrow : ∀ c d : Nat, c + d = 204 → (prt ru r P (okl ru P c)).length ≤ (rowsL ru (r + 1) P).length := fun c d hcd => by
      obtain ⟨t, ht⟩ := okl_pre (ru := ru) (B := P) (n := c) d
      rw [hcd] at ht
      rw [rowsL_succ, ht]
      obtain ⟨X, hX⟩ := prt_app (ru := ru) (r := r) (P := P) (l := okl ru P c) (l2 := t)
      rw [hX, List.length_append]; omega
    have codes : ∀ (d c : Nat), c + d = 204 → ∀ (z : iv_M), Eb P z → z 168 L = (c : Int) - 1 → z 169 L = ((okl ru P c).length : Int) - 1 → Tot (z 113 78) (z 171) (z 170) n (A ++ extR pre (prt ru r P (okl ru P c))) → Rf2 s z → (∀ l : Nat, l < L → z 168 l = x 168 l ∧ z 169 l = x 169 l) → ∃ K x', K ≤ d * (1 + bdR r) + 1 ∧ (∀ f, FX12_findsRows_l41 N 113 (n : Int) kx (f + K) z (L : Int) = FX12_findsRows_l41 N 113 (n : Int) kx f x' ((L : Int) - 1)) ∧ Eb Q x' ∧ Tot (x' 113 78) (x' 171) (x' 170) n (A ++ extR pre (rowsL ru (r + 1) P)) ∧ Rf2 s x' ∧ ∀ l : Nat, l < L → x' 168 l = x 168 l ∧ x' 169 l = x 169 l := by
      intro d
      induction d with
      | zero =>
        intro c hc z hEz z1 z2 zT zf zl
        have hc4 : c = 204 := by omega
        subst hc4
        obtain ⟨y, hy⟩ : ∃ y, y = mu z 168 (L : Int) 204 := ⟨_, rfl⟩
        have oy : ∀ a, a ≠ 168 → y a = z a := fun a ha => by rw [hy, mu_rw ha]
        have hEy : Eb P y := fun a a0 a1 => by rw [oy a (by omega), hEz a a0 a1]
        have hQy : Par ru Q P L y := by
          rcases hQ with q | ⟨q0, c, q1, q2, q3, q4, q5⟩
          · exact Or.inl q
          · refine Or.inr ⟨q0, c, q1, q2, q3, q4, ?_⟩
            have := (zl (L - 1) (by omega)).1
            rw [show ((L - 1 : Nat) : Int) = (L : Int) - 1 by omega] at this
            rw [hy, mu_ne (by omega), this]; exact q5
        have sb := stepsBack_ok (N := N) (by omega) hQy hEy
        refine ⟨1, blk Q y, by omega, fun f => ?_, eb_blk, ?_, blk_rf2 (by rw [hy]; exact mu_rf2 zf (by omega)), fun l hl => ?_⟩
        · rw [FX12_findsRows_l41, if_neg (by omega), if_neg (by omega)]
          simp only [Nat.reduceAdd]
          rw [rd_ok (by omega) (by omega), Option.bind_some, z1, w32_id (by omega) (by omega), wr_ok (by omega) (by omega), Option.bind_some, show ((204 : Nat) : Int) - 1 + 1 = 204 by omega, ← hy, rd_ok (by omega) (by omega), Option.bind_some, hy, mu_eq, if_pos rfl, ← hy, sb, Option.bind_some]
        · rw [blk_out (by omega), blk_out (by omega), blk_out (by omega), oy 113 (by omega), oy 171 (by omega), oy 170 (by omega), rowsL_succ]; exact zT
        · rw [blk_out (by omega), blk_out (by omega), oy 169 (by omega), hy, mu_ne (by omega)]; exact zl l hl
      | succ d ihd =>
        intro c hc z hEz z1 z2 zT zf zl
        obtain ⟨y, hy⟩ : ∃ y, y = mu z 168 (L : Int) (c : Int) := ⟨_, rfl⟩
        have oy : ∀ a, a ≠ 168 → y a = z a := fun a ha => by rw [hy, mu_rw ha]
        have hEy : Eb P y := fun a a0 a1 => by rw [oy a (by omega), hEz a a0 a1]
        have hfy : Rf2 s y := by rw [hy]; exact mu_rf2 zf (by omega)
        have e4 := hEy 114 (by omega) (by omega)
        have hRL : RefL y ru := ⟨eb_Wf hEy hW, by rw [e4]; exact hL.1.2.1.1, by rw [e4, e12]; exact RUO_ext (fun a ha => hfy.1 a (by omega) (by omega) (by omega) (by omega) (by omega)) hR⟩
        obtain ⟨v, m1, m2, m3⟩ := FX12_mayBe_ok (N := N) (s := y) (c := (c : Int)) hN hRL (by omega) (by omega)
        have hEv : Eb P v := Eb.trans hEy m2.eb
        have hfv : Rf2 s v := hfy.trans m2.rf2
        have ov : ∀ a, a ≠ 113 → a ≠ 146 → a ≠ 147 → v a = y a := m2.1
        have v78 : v 113 78 = z 113 78 := by rw [m2.2 78 (by omega) (by omega) (by omega), oy 113 (by omega)]
        have v168 : v 168 L = (c : Int) := by rw [ov 168 (by omega) (by omega) (by omega), hy, mu_eq]
        have v168l : ∀ l : Nat, l ≠ L → v 168 l = z 168 l := fun l hl => by rw [ov 168 (by omega) (by omega) (by omega), hy, mu_ne (by omega)]
        have v169 : v 169 = z 169 := by rw [ov 169 (by omega) (by omega) (by omega), oy 169 (by omega)]
        have start : ∀ f, FX12_findsRows_l41 N 113 (n : Int) kx (f + 1) z (L : Int) = (if (if okc ru y (c : Int) then (1 : Int) else 0) = 0 then (FX12_findsRows_l41 N 113 (n : Int) kx f v (L : Int)) else ((rd v 169 4 (L : Int)).bind fun v_4317 => ((wr v 169 4 (L : Int) (w32 (v_4317 + 1))).bind fun s_4318 => ((rd s_4318 168 4 (L : Int)).bind fun v_4320 => ((FX12_does N s_4318 113 v_4320).bind fun s_4322 => ((wr s_4322 168 4 (w32 ((L : Int) + 1)) (-1)).bind fun s_4323 => ((wr s_4323 169 4 (w32 ((L : Int) + 1)) (-1)).bind fun s_4325 => (FX12_findsRows_l41 N 113 (n : Int) kx f s_4325 (w32 ((L : Int) + 1)))))))))) := fun f => by
          rw [FX12_findsRows_l41, if_neg (by omega), if_neg (by omega)]
          simp only [Nat.reduceAdd]
          rw [rd_ok (by omega) (by omega), Option.bind_some, z1, w32_id (x := (c : Int) - 1 + 1) (by omega) (by omega), wr_ok (by omega) (by omega), Option.bind_some, show (c : Int) - 1 + 1 = c by omega, ← hy, rd_ok (by omega) (by omega), Option.bind_some, hy, mu_eq, if_neg (by omega), Option.bind_some, ← hy, m1, Option.bind_some]
        by_cases ok : okc ru P (c : Int)
        · have oky : okc ru y (c : Int) := (eb_okc hEy c).mpr ok
          have hoc : okl ru P (c + 1) = okl ru P c ++ [(c : Int)] := by rw [okl_c, if_pos ok]
          have hiw := thr_isW (by omega) (by omega) ok.1
          have hsl := cn_sl (lwf_cn ok.2)
          obtain ⟨k, hk⟩ : ∃ k, k = (okl ru P c).length := ⟨_, rfl⟩
          obtain ⟨u, hu⟩ : ∃ u, u = mu v 169 (L : Int) (k : Int) := ⟨_, rfl⟩
          have ou : ∀ a, a ≠ 169 → u a = v a := fun a ha => by rw [hu, mu_rw ha]
          have hEu : Eb P u := fun a a0 a1 => by rw [ou a (by omega), hEv a a0 a1]
          have u168 : u 168 L = (c : Int) := by rw [ou 168 (by omega)]; exact v168
          have hdo := FX12_does_ok (N := N) (s := u) (ru := ru) (c := (c : Int)) (eb_Wf hEu hW) (by omega) (by omega) ((eb_okc hEu c).mpr ok)
          obtain ⟨w, hw⟩ : ∃ w, w = mu (mu (wlk u (cK c) (cR c) (cO c)) 168 ((L : Int) + 1) (-1)) 169 ((L : Int) + 1) (-1) := ⟨_, rfl⟩
          have hEw : Eb (wkc P c) w := fun a a0 a1 => by
            rw [hw, mu_rw (by omega), mu_rw (by omega)]
            exact eb_wlk hEu a a0 a1
          have wo : ∀ a, (a < 114 ∨ 131 < a) → a ≠ 168 → a ≠ 169 → w a = v a := fun a h1 h2 h3 => by rw [hw, mu_rw h3, mu_rw h2, wlk_row (by omega) (by omega) (by omega), ou a h3]
          have w168 : ∀ l : Nat, l ≤ L → w 168 l = u 168 l := fun l hl => by rw [hw, mu_ne (by omega), mu_ne (by omega), wlk_row (by omega) (by omega) (by omega)]
          have w169 : ∀ l : Nat, l ≤ L → w 169 l = u 169 l := fun l hl => by rw [hw, mu_ne (by omega), mu_ne (by omega), wlk_row (by omega) (by omega) (by omega)]
          have u169 : u 169 L = (k : Int) := by rw [hu, mu_eq]
          have u169l : ∀ l : Nat, l < L → u 169 l = z 169 l := fun l hl => by rw [hu, mu_ne (by omega), v169]
          have u168l : ∀ l : Nat, l < L → u 168 l = z 168 l := fun l hl => by rw [ou 168 (by omega), v168l l (by omega)]
          have hfw : Rf2 s w := by
            rw [hw]
            refine mu_rf2 (mu_rf2 (wlk_rf2 ?_) (by omega)) (by omega)
            rw [hu]; exact mu_rf2 hfv (by omega)
          have hplen : (pre ++ [((k : Int), (c : Int))]).length = L + 1 := by rw [List.length_append, ← hLd]; rfl
          have hRr : RrP w (pre ++ [((k : Int), (c : Int))]) := fun l hl => by
            rw [hplen] at hl
            by_cases el : l = L
            · subst el
              have : gP (pre ++ [((k : Int), (c : Int))]) (l : Int) = ((k : Int), (c : Int)) := by
                rw [gP_at (by rw [hplen]; omega), List.getElem_append_right (by omega)]
                simp [← hLd]
              rw [this, w168 l (by omega), w169 l (by omega), u168, u169]
              exact ⟨rfl, rfl, by show (0 : Int) ≤ c; omega, by show (c : Int) < 204; omega⟩
            · have hlL : l < pre.length := by omega
              have : gP (pre ++ [((k : Int), (c : Int))]) (l : Int) = gP pre (l : Int) := by
                rw [gP_at (by rw [hplen]; omega), gP_at hlL, List.getElem_append_left hlL]
              rw [this, w168 l (by omega), w169 l (by omega), u168l l (by omega), u169l l (by omega), (zl l (by omega)).1, (zl l (by omega)).2]
              exact hpc l hlL
          have hPar : Par ru P (wkc P c) (pre ++ [((k : Int), (c : Int))]).length w := by
            rw [hplen]
            refine Or.inr ⟨by omega, (c : Int), hW, ⟨by omega, by omega⟩, ok, rfl, ?_⟩
            rw [show ((L + 1 : Nat) : Int) - 1 = (L : Int) by omega, w168 L (by omega)]; exact u168
          have hTw : Tot (w 113 78) (w 171) (w 170) n (A ++ extR pre (prt ru r P (okl ru P c))) := by
            rw [wo 113 (by omega) (by omega) (by omega), wo 171 (by omega) (by omega) (by omega), wo 170 (by omega) (by omega) (by omega), v78, ov 171 (by omega) (by omega) (by omega), ov 170 (by omega) (by omega) (by omega), oy 171 (by omega), oy 170 (by omega)]
            exact zT
          have hbound : (A ++ extR pre (prt ru r P (okl ru P c))).length + (rowsL ru r (wkc P c)).length ≤ 3000000 := by
            have := hrow (c + 1) d (by omega)
            rw [hoc, prt_snoc, List.length_append, List.length_map] at this
            rw [List.length_append, extR_len]
            omega
          obtain ⟨K1, x1, a1, a2, a3, a4, a5, a6⟩ := ih w (wkc P c) P (pre ++ [((k : Int), (c : Int))]) _ (by rw [hplen]; omega) (hL.wk hiw hsl) hEw hPar hRr (fun _ => by
            rw [hplen]
            refine ⟨?_, ?_⟩
            · rw [hw, show ((L + 1 : Nat) : Int) = (L : Int) + 1 by omega, mu_ne (by omega), mu_eq]
            · rw [hw, show ((L + 1 : Nat) : Int) = (L : Int) + 1 by omega, mu_eq]) hTw hbound hfw
          rw [hplen] at a2 a6
          have a2' : ∀ f, FX12_findsRows_l41 N 113 (n : Int) kx (f + K1) w ((L : Int) + 1) = FX12_findsRows_l41 N 113 (n : Int) kx f x1 (L : Int) := fun f => by
            have := a2 f
            rw [show ((L + 1 : Nat) : Int) = (L : Int) + 1 by omega, show (L : Int) + 1 - 1 = (L : Int) by omega] at this
            exact this
          obtain ⟨b1, b2⟩ := a6 L (by omega)
          rw [w168 L (by omega), u168] at b1
          rw [w169 L (by omega), u169] at b2
          obtain ⟨K2, x2, d1, d2, d3⟩ := ihd (c + 1) (by omega) x1 a3 (by rw [b1]; omega) (by rw [b2, hoc, List.length_append, hk]; simp) (by
            rw [hoc, prt_snoc, extR_app, extR_cons, ← List.append_assoc, ← hk]; exact a4) a5 (fun l hl => by
            obtain ⟨q1, q2⟩ := a6 l (by omega)
            rw [q1, q2, w168 l (by omega), w169 l (by omega), u168l l hl, u169l l hl]; exact zl l hl)
          have hdk : (d + 1) * (1 + bdR r) + 1 = d * (1 + bdR r) + (1 + bdR r) + 1 := by rw [Nat.add_mul, Nat.one_mul]
          have hKK : K2 + K1 + 1 ≤ (d + 1) * (1 + bdR r) + 1 := by omega
          clear hdk d1 a1
          refine ⟨K2 + K1 + 1, x2, hKK, fun f => ?_, d3⟩
          clear hKK
          have hL1 : w32 ((L : Int) + 1) = (L : Int) + 1 := w32_id (by omega) (by omega)
          have hkk := okl_len ru P c
          have hk2 : w32 (((okl ru P c).length : Int) - 1 + 1) = (k : Int) := by rw [w32_id (by omega) (by omega)]; omega
          have hfK : f + (K2 + K1 + 1) = f + K2 + K1 + 1 := by omega
          rw [hfK, start, if_pos oky, if_neg (by decide), rd_ok L0 L4, Option.bind_some, v169, z2, hk2, wr_ok L0 L4, Option.bind_some, ← hu, rd_ok L0 L4, Option.bind_some, u168, hdo, Option.bind_some, hL1, wr_ok M0 M4, Option.bind_some, wr_ok M0 M4, Option.bind_some, ← hw, a2', d2]
        · have oky : ¬ okc ru y (c : Int) := fun q => ok ((eb_okc hEy c).mp q)
          have hoc : okl ru P (c + 1) = okl ru P c := by rw [okl_c, if_neg ok]
          obtain ⟨K2, x2, d1, d2, d3⟩ := ihd (c + 1) (by omega) v hEv (by rw [v168]; omega) (by rw [v169, z2, hoc]) (by
            rw [hoc, v78, ov 171 (by omega) (by omega) (by omega), ov 170 (by omega) (by omega) (by omega), oy 171 (by omega), oy 170 (by omega)]; exact zT) hfv (fun l hl => by rw [v168l l (by omega), v169]; exact zl l hl)
          have hdk : (d + 1) * (1 + bdR r) + 1 = d * (1 + bdR r) + (1 + bdR r) + 1 := by rw [Nat.add_mul, Nat.one_mul]
          refine ⟨K2 + 1, x2, by omega, fun f => ?_, d3⟩
          rw [show f + (K2 + 1) = f + K2 + 1 by omega, start, if_neg oky, if_pos rfl, d2]
    obtain ⟨s1, s2⟩ := hst (by omega)
    have := codes 204 0 (by omega) x hE (by rw [s1]; rfl) (by rw [s2]; rfl) (by
      show Tot _ _ _ n (A ++ extR pre (prt ru r P []))
      rw [prt_nil, show extR pre [] = [] from rfl, List.append_nil]; exact hT) hf (fun l _ => ⟨rfl, rfl⟩)
    exact this
