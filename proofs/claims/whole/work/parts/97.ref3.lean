-- THE FEWEST NIGHTS: the reference searches
def okd (ru : Option (List (List (Int × Int)))) (P : iv_M) : Nat → Nat → List Int
  | 0, _ => []
  | d + 1, c => if okc ru P (c : Int) then (c : Int) :: okd ru P d (c + 1) else okd ru P d (c + 1)
theorem okl_okd {ru : Option (List (List (Int × Int)))} {P : iv_M} : ∀ d c : Nat, c + d = 204 → okl ru P 204 = okl ru P c ++ okd ru P d c := by
  intro d
  induction d with
  | zero => intro c hc; rw [show c = 204 by omega]; show _ = _ ++ []; rw [List.append_nil]
  | succ d ih =>
    intro c hc
    have := ih (c + 1) (by omega)
    rw [this, okl_c]
    show _ = _ ++ (if okc ru P (c : Int) then (c : Int) :: okd ru P d (c + 1) else okd ru P d (c + 1))
    by_cases e : okc ru P (c : Int)
    · rw [if_pos e, if_pos e, List.append_assoc]; rfl
    · rw [if_neg e, if_neg e]
/-- how the reference's search ended -/
def Dn (B : iv_M) (r : Int × List Int) (v : Int) (y : iv_M) : Prop := (∀ t, 0 ≤ t → t < 4096 → y 153 t ≤ y 113 56) ∧ ((r = (-3, []) ∧ v = 1 ∧ y 113 58 = -1) ∨ (r = (-2, []) ∧ v = 0 ∧ y 113 58 = -1) ∨ (r = (0, []) ∧ v = 0 ∧ y 113 58 = 0 ∧ y 150 0 = -1) ∨ ∃ (L : List Nd) (i : Nat) (c : Int), r = (((trw L i).length : Int) + 1, trw L i ++ [c]) ∧ v = 0 ∧ Fnd y L i c ∧ LT B L ∧ (nt L 0).2.2.1 = -1 ∧ i < L.length ∧ 0 ≤ c ∧ c < 204)
theorem Dn_ext {B y y' : iv_M} {r : Int × List Int} {v : Int} (h1 : y' 113 = y 113) (h2 : ∀ a, 148 ≤ a → a ≤ 153 → y' a = y a) (h : Dn B r v y) : Dn B r v y' := by
  unfold Dn Fnd at h ⊢
  rw [h1, h2 153 (by omega) (by omega), h2 150 (by omega) (by omega), h2 151 (by omega) (by omega)]; exact h
theorem knn_snoc {L : List Nd} {a : Nd} {k : Int × Int} (h : ¬ knn L k = true) (h2 : ¬ (a.1, a.2.1) = k) : ¬ knn (L ++ [a]) k = true := fun q => by
  obtain ⟨j, j1, j2, j3⟩ := knn_iff.mp q
  rw [List.length_append] at j1
  by_cases e : j < L.length
  · rw [nt_old e] at j2 j3; exact h (knn_iff.mpr ⟨j, e, j2, j3⟩)
  · have : j = L.length := by simp at j1; omega
    rw [this, nt_new] at j2 j3
    exact h2 (Prod.ext j2 j3)
theorem stop74 {N : Nat} {x1 x3 v c : Int} {kx : iv_M → Int → Option (Int × iv_M)} {y : iv_M} {f : Nat} (h : v ≠ 0 ∨ y 113 58 ≠ -1) : FX12_finds_l74 N 113 x1 x3 kx (f + 1) y v c = kx y v := by
  rw [FX12_finds_l74]
  by_cases e : 204 ≤ c
  · rw [if_pos e]
  · rw [if_neg e]
    by_cases e2 : y 113 58 = -1
    · rw [if_pos e2, if_neg (by omega)]
    · rw [if_neg e2]
theorem stop39 {N : Nat} {x1 v c : Int} {kx : iv_M → Int → Option (Int × iv_M)} {y : iv_M} {f : Nat} (h : v ≠ 0 ∨ y 113 58 ≠ -1) : FX12_finds_l39 N 113 x1 kx (f + 1) y v c = kx y v := by
  rw [FX12_finds_l39]
  by_cases e : y 113 57 ≤ c
  · rw [if_pos e]
  · rw [if_neg e]
    by_cases e3 : 1500 ≤ c
    · rw [if_pos e3]
    · rw [if_neg e3]
      by_cases e2 : y 113 58 = -1
      · rw [if_pos e2, if_neg (by omega)]
      · rw [if_neg e2]
theorem Rs.blk {s x Q : iv_M} (h : Rs s x) : Rs s (blk Q x) := ⟨fun a z0 z1 z2 => by rw [blk_out (by omega), h.1 a z0 z1 z2], fun j z0 z1 z2 z3 z4 => by rw [blk_out (by omega), h.2 j z0 z1 z2 z3 z4]⟩
theorem ref_in {N i : Nat} {s B Bi : iv_M} {m k : Int} {ru : Option (List (List (Int × Int)))} {kx : iv_M → Int → Option (Int × iv_M)} (hN : 5000 ≤ N) (hB : WHm m B) (hBi : Sok m B Bi) (hR : RUO s (B 114 12) ru) (hd : hdr B k) (hv : FV B (dC B k) (dT B k)) : ∀ (d c f : Nat) (y : iv_M) (L : List Nd), c + d = 204 → d < f → Eb Bi y → SRf y B L → LT B L → (nt L 0).2.2.1 = -1 → i < L.length → ¬ knn L (wnt B k) = true → y 113 58 = -1 → Rs s y →
    (∃ r v y', expd (wnt B k) i Bi (okd ru Bi d c) L = .inl r ∧ FX12_finds_l74 N 113 k (i : Int) kx f y 0 (c : Int) = kx y' v ∧ Dn B r v y' ∧ (v ≠ 0 ∨ y' 113 58 ≠ -1) ∧ Eb Bi y' ∧ Rs s y') ∨
    (∃ L' y', expd (wnt B k) i Bi (okd ru Bi d c) L = .inr L' ∧ FX12_finds_l74 N 113 k (i : Int) kx f y 0 (c : Int) = kx y' 0 ∧ Eb Bi y' ∧ SRf y' B L' ∧ LT B L' ∧ (nt L' 0).2.2.1 = -1 ∧ L.length ≤ L'.length ∧ ¬ knn L' (wnt B k) = true ∧ y' 113 58 = -1 ∧ Rs s y') := by
  intro d
  have hW := hBi.1.1.1
  induction d with
  | zero =>
    intro c f y L hc hf hE hS hT h0 hi hk h58 hr
    obtain ⟨f', rfl⟩ : ∃ f', f = f' + 1 := ⟨f - 1, by omega⟩
    right
    refine ⟨L, y, rfl, ?_, hE, hS, hT, h0, Nat.le_refl _, hk, h58, hr⟩
    rw [FX12_finds_l74, if_pos (by omega)]
  | succ d ih =>
    intro c f y L hc hf hE hS hT h0 hi hk h58 hr
    obtain ⟨f', rfl⟩ : ∃ f', f = f' + 1 := ⟨f - 1, by omega⟩
    obtain ⟨f2, hf2⟩ : ∃ f2, f' = f2 + 1 := ⟨f' - 1, by omega⟩
    have e4 := hE 114 (by omega) (by omega)
    have hRL : RefL y ru := ⟨eb_Wf hE hW, by rw [e4]; exact hBi.1.1.2.1.1, by rw [e4, hBi.all]; exact RUO_ext (fun a ha => hr.1 a (by omega) (by omega) (by omega)) hR⟩
    obtain ⟨v, m1, m2, m3⟩ := FX12_mayBe_ok (N := N) (s := y) (c := (c : Int)) (by omega) hRL (by omega) (by omega)
    have hEv : Eb Bi v := Eb.trans hE m2.eb
    have hrv : Rs s v := hr.trans m2.rs
    have v58 : v 113 58 = -1 := by rw [m2.2 58 (by omega) (by omega) (by omega)]; exact h58
    have hSv : SRf v B L := SRf_ext (m2.2 56 (by omega) (by omega) (by omega)) (m2.2 57 (by omega) (by omega) (by omega)) (fun a a0 a1 => m2.1 a (by omega) (by omega) (by omega)) hS
    have start : FX12_finds_l74 N 113 k (i : Int) kx (f' + 1) y 0 (c : Int) = (if (if okc ru y (c : Int) then (1 : Int) else 0) = 0 then (FX12_finds_l74 N 113 k (i : Int) kx f' v 0 ((c + 1 : Nat) : Int)) else ((FX12_does N v 113 (c : Int)).bind fun s_3653 => ((FX12_comes N s_3653 113 (i : Int) (c : Int) k).bind fun r_3654 => (fun (v_3654 : Int) (s_3655 : iv_M) => ((FX12_doesBack N s_3655 113 (c : Int)).bind fun s_3657 => (FX12_finds_l74 N 113 k (i : Int) kx f' s_3657 v_3654 ((c + 1 : Nat) : Int)))) r_3654.1 r_3654.2))) := by
      rw [FX12_finds_l74, if_neg (by omega), if_pos h58, if_pos rfl, m1, Option.bind_some]
      unfold FX12_finds_b124
      rw [w32_id (by omega) (by omega), show (c : Int) + 1 = ((c + 1 : Nat) : Int) by omega]
    have hod : okd ru Bi (d + 1) c = if okc ru Bi (c : Int) then (c : Int) :: okd ru Bi d (c + 1) else okd ru Bi d (c + 1) := rfl
    rw [hod]
    by_cases ok : okc ru Bi (c : Int)
    rotate_left
    · rw [if_neg ok, start, if_neg (show ¬ okc ru y (c : Int) from fun q => ok ((eb_okc hE c).mp q)), if_pos rfl]
      exact ih (c + 1) f' v L (by omega) (by omega) hEv hSv hT h0 hi hk v58 hrv
    rw [if_pos ok]
    rw [if_pos ((eb_okc hE c).mpr ok), if_neg (show ¬ (1 : Int) = 0 by decide)] at start
    have hiw := thr_isW (by omega) (by omega) ok.1
    have hsl := cn_sl (lwf_cn ok.2)
    have hdo := FX12_does_ok (N := N) (s := v) (ru := ru) (c := (c : Int)) (eb_Wf hEv hW) (by omega) (by omega) ((eb_okc hEv c).mpr ok)
    obtain ⟨w, hw⟩ : ∃ w, w = wlk v (cK c) (cR c) (cO c) := ⟨_, rfl⟩
    rw [← hw] at hdo
    have hEw : Eb (wkc Bi c) w := fun a a0 a1 => by rw [hw]; exact eb_wlk hEv a a0 a1
    have wo : ∀ a, (a < 114 ∨ 131 < a) → w a = v a := fun a ha => by rw [hw, wlk_row (by omega) (by omega) (by omega)]
    have hSw : SRf w B L := SRf_ext (by rw [wo 113 (by omega)]) (by rw [wo 113 (by omega)]) (fun a a0 a1 => wo a (by omega)) hSv
    have w58 : w 113 58 = -1 := by rw [wo 113 (by omega)]; exact v58
    have hrw : Rs s w := hrv.trans ⟨fun a z0 z1 z2 => wo a z1, fun j z0 z1 z2 z3 z4 => by rw [wo 113 (by omega)]⟩
    have back : ∀ x, Eb (wkc Bi c) x → FX12_doesBack N x 113 (c : Int) = some (blk Bi x) := fun x hx => FX12_doesBack_ok (N := N) (s := x) (B := Bi) (ru := ru) hx hW (by omega) (by omega) ok
    have hex : ∀ cs, expd (wnt B k) i Bi ((c : Int) :: cs) L = if keyB (wkc Bi c) = wnt B k then .inl (((trw L i).length : Int) + 1, trw L i ++ [(c : Int)]) else if knn L (keyB (wkc Bi c)) = true then expd (wnt B k) i Bi cs L else if 1500 ≤ L.length then .inl (-3, []) else expd (wnt B k) i Bi cs (L ++ [((keyB (wkc Bi c)).1, (keyB (wkc Bi c)).2, (i : Int), (c : Int))]) := fun cs => rfl
    rw [hdo, Option.bind_some] at start
    rw [hex]
    have bS : ∀ (x : iv_M) (L' : List Nd), SRf x B L' → SRf (blk Bi x) B L' := fun x L' h => SRf_ext (by rw [blk_out (by omega)]) (by rw [blk_out (by omega)]) (fun a a0 a1 => blk_out (by omega)) h
    rcases comes_ok (N := N) (y := w) (B := B) (P := wkc Bi c) (L := L) (m := m) (k := k) (i := (i : Int)) (c := (c : Int)) hN hB hSw hT (hBi.wk hiw hsl) hEw hd hv w58 hk with ⟨a1, x, a2, a3, a4, a5⟩ | ⟨a1, a2, a3⟩ | ⟨a1, a2, a3, a4⟩ | ⟨a1, a2, a3, x, a4, a5, a6, a7, a8⟩
    · left
      have hx : Eb (wkc Bi c) x := fun a a0 a1 => by rw [a5 a a0 a1, hEw a a0 a1]
      have s58 : blk Bi x 113 58 ≠ -1 := by rw [blk_out (by omega), a3.1]; omega
      rw [a2, Option.bind_some] at start
      dsimp only at start
      rw [back x hx, Option.bind_some, hf2, stop74 (Or.inr s58)] at start
      refine ⟨_, 0, blk Bi x, by rw [if_pos a1], by rw [hf2]; exact start, Dn_ext (y := x) (blk_out (by omega)) (fun a a0 a1 => blk_out (by omega)) ⟨a3.2.2.2.2.2, Or.inr (Or.inr (Or.inr ⟨L, i, (c : Int), rfl, rfl, a3, hT, h0, hi, by omega, by omega⟩))⟩, Or.inr s58, eb_blk, (hrw.trans a4).blk⟩
    · rw [if_neg a1, if_pos a2, start, a3, Option.bind_some]
      dsimp only
      rw [back w hEw, Option.bind_some]
      exact ih (c + 1) f' (blk Bi w) L (by omega) (by omega) eb_blk (bS w L hSw) hT h0 hi hk (by rw [blk_out (by omega)]; exact w58) hrw.blk
    · left
      rw [a4, Option.bind_some] at start
      dsimp only at start
      rw [back w hEw, Option.bind_some, hf2, stop74 (Or.inl (show (1 : Int) ≠ 0 by decide))] at start
      refine ⟨(-3, []), 1, blk Bi w, by rw [if_neg a1, if_neg a2, if_pos (by omega)], by rw [hf2]; exact start, Dn_ext (y := w) (blk_out (by omega)) (fun a a0 a1 => blk_out (by omega)) ⟨fun t t0 t1 => (hSw.2.2.2.2 t t0 t1).1, Or.inl ⟨rfl, rfl, w58⟩⟩, Or.inl (by decide), eb_blk, hrw.blk⟩
    · have hx : Eb (wkc Bi c) x := fun a a0 a1 => by rw [a8 a a0 a1, hEw a a0 a1]
      have hll : (L ++ [((keyB (wkc Bi c)).1, (keyB (wkc Bi c)).2, (i : Int), (c : Int))]).length = L.length + 1 := by simp
      rw [if_neg a1, if_neg a2, if_neg (by omega), start, a4, Option.bind_some]
      dsimp only
      rw [back x hx, Option.bind_some]
      have hT' : LT B (L ++ [((keyB (wkc Bi c)).1, (keyB (wkc Bi c)).2, (i : Int), (c : Int))]) := LT_snoc hT (NOK_sok (hBi.wk hiw hsl)).1 (by omega) ⟨⟨by show (0 : Int) ≤ i; omega, by show (i : Int) < L.length; omega⟩, by show (0 : Int) ≤ c; omega, by show (c : Int) < 204; omega⟩
      have := ih (c + 1) f' (blk Bi x) (L ++ [((keyB (wkc Bi c)).1, (keyB (wkc Bi c)).2, (i : Int), (c : Int))]) (by omega) (by omega) eb_blk (bS x _ a5) hT' (by rw [nt_old (by omega)]; exact h0) (by omega) (knn_snoc hk a1) (by rw [blk_out (by omega)]; exact a6) (hrw.trans a7).blk
      rcases this with z | ⟨L', y', z1, z2, z3, z4, z5, z6, z7, z8⟩
      · exact Or.inl z
      · exact Or.inr ⟨L', y', z1, z2, z3, z4, z5, z6, by omega, z8⟩
theorem ref_out {N : Nat} {s B : iv_M} {m k : Int} {ru : Option (List (List (Int × Int)))} {kx : iv_M → Int → Option (Int × iv_M)} (hN : 5000 ≤ N) (hB : WHm m B) (hO : OZ B) (hR : RUO s (B 114 12) ru) (hd : hdr B k) (hv : FV B (dC B k) (dT B k)) : ∀ (n i f : Nat) (y : iv_M) (L : List Nd), i + n = 1501 → n < f → (∃ P, Eb P y ∧ Sok m B P) → SRf y B L → LT B L → (nt L 0).2.2.1 = -1 → ¬ knn L (wnt B k) = true → y 113 58 = -1 → Rs s y →
    ∃ v y' P, FX12_finds_l39 N 113 k kx f y 0 (i : Int) = kx y' v ∧ Dn B (bfs ru B (wnt B k) n i L) v y' ∧ Eb P y' ∧ Sok m B P ∧ Rs s y' := by
  intro n
  induction n with
  | zero =>
    intro i f y L hi hf hP hS hT h0 hk h58 hr
    obtain ⟨f', rfl⟩ : ∃ f', f = f' + 1 := ⟨f - 1, by omega⟩
    obtain ⟨P, p1, p2⟩ := hP
    have q1 := hS.1
    have q2 := hS.2.1
    refine ⟨0, y, P, ?_, ⟨fun t t0 t1 => (hS.2.2.2.2 t t0 t1).1, Or.inr (Or.inl ⟨rfl, rfl, h58⟩)⟩, p1, p2, hr⟩
    rw [FX12_finds_l39, if_pos (by omega)]
  | succ n ih =>
    intro i f y L hi hf hP hS hT h0 hk h58 hr
    obtain ⟨f', rfl⟩ : ∃ f', f = f' + 1 := ⟨f - 1, by omega⟩
    obtain ⟨f2, hf2⟩ : ∃ f2, f' = f2 + 1 := ⟨f' - 1, by omega⟩
    obtain ⟨P, p1, p2⟩ := hP
    have q1 := hS.1
    have q2 := hS.2.1
    have hb : bfs ru B (wnt B k) (n + 1) i L = if i < L.length then (match expd (wnt B k) i (layk B (nt L i).1 (nt L i).2.1) (okl ru (layk B (nt L i).1 (nt L i).2.1) 204) L with
      | .inl r => r
      | .inr L' => bfs ru B (wnt B k) n (i + 1) L') else (-2, []) := rfl
    rw [hb]
    by_cases e : i < L.length
    rotate_left
    · rw [if_neg e]
      refine ⟨0, y, P, ?_, ⟨fun t t0 t1 => (hS.2.2.2.2 t t0 t1).1, Or.inr (Or.inl ⟨rfl, rfl, h58⟩)⟩, p1, p2, hr⟩
      rw [FX12_finds_l39, if_pos (by omega)]
    rw [if_pos e]
    have hn := hT.1 i e
    obtain ⟨Bi, hBi⟩ : ∃ Bi, Bi = layk B (nt L i).1 (nt L i).2.1 := ⟨_, rfl⟩
    have sB : Sok m B Bi := by rw [hBi]; exact Sok_lay hB hO hn.1
    obtain ⟨r1, r2, _⟩ := hS.2.2.1 i e
    obtain ⟨w, w1, w2, w3⟩ := laysSit_ok (N := N) (y := y) (B := B) (P := P) (nd := nt L i) (m := m) (i := (i : Int)) (by omega) hB hO hn p2 p1 (by omega) (by omega) r1 r2
    rw [← hBi] at w2 ⊢
    have hSw : SRf w B L := SRf_ext (by rw [w3 113 (by omega)]) (by rw [w3 113 (by omega)]) (fun a a0 a1 => w3 a (by omega)) hS
    have hrw : Rs s w := hr.trans ⟨fun a z0 z1 z2 => w3 a z1, fun j z0 z1 z2 z3 z4 => by rw [w3 113 (by omega)]⟩
    have start : FX12_finds_l39 N 113 k kx (f' + 1) y 0 (i : Int) = FX12_finds_l74 N 113 k (i : Int) (fun (s_3643 : iv_M) (x3644_2 : Int) => (FX12_finds_b130 N s_3643 113 k x3644_2 (i : Int) (FX12_finds_l39 N 113 k kx f') kx)) N w 0 ((0 : Nat) : Int) := by
      rw [FX12_finds_l39, if_neg (by omega), if_neg (by omega), if_pos h58, if_pos rfl, w1, Option.bind_some]; rfl
    have hol : okl ru Bi 204 = okd ru Bi 204 0 := okl_okd 204 0 (by omega)
    rcases ref_in (N := N) (i := i) (s := s) (B := B) (Bi := Bi) (m := m) (k := k) (ru := ru) (kx := fun (s_3643 : iv_M) (x3644_2 : Int) => (FX12_finds_b130 N s_3643 113 k x3644_2 (i : Int) (FX12_finds_l39 N 113 k kx f') kx)) hN hB sB hR hd hv 204 0 N w L (by omega) (by omega) w2 hSw hT h0 e hk (by rw [w3 113 (by omega)]; exact h58) hrw with ⟨r, v, x, x1, x2, x3, x4, x5, x6⟩ | ⟨L', x, x1, x2, x3, x4, x5, x6, x7, x8, x9, x10⟩
    · rw [hol, x1]
      refine ⟨v, x, Bi, ?_, x3, x5, sB, x6⟩
      refine start.trans (x2.trans ?_)
      show FX12_finds_b130 N x 113 k v (i : Int) (FX12_finds_l39 N 113 k kx f') kx = _
      unfold FX12_finds_b130
      rw [hf2, stop39 x4]
    · rw [hol, x1]
      obtain ⟨v, y', P', u1, u2, u3, u4, u5⟩ := ih (i + 1) f' x L' (by omega) (by omega) ⟨Bi, x3, sB⟩ x4 x5 x6 x8 x9 x10
      refine ⟨v, y', P', ?_, u2, u3, u4, u5⟩
      refine start.trans (x2.trans ?_)
      show FX12_finds_b130 N x 113 k 0 (i : Int) (FX12_finds_l39 N 113 k kx f') kx = _
      unfold FX12_finds_b130
      rw [w32_id (by omega) (by omega), show (i : Int) + 1 = ((i + 1 : Nat) : Int) by omega]
      exact u1
