-- FLOORS: the reference's loop over one room's places
def fs1 (w : Bool) (x3 k : Int) (W : iv_M → Int × Int) (P : iv_M) (r t : Int) : Int × Int := if ffr P (t / x3) = true then fon w W P r (t / x3) (if x3 = 1 then k else t % 4) else (0, 0)
theorem fs1_nn {w : Bool} {x3 k : Int} {W : iv_M → Int × Int} {P : iv_M} {r : Int} (h : ∀ Q, 0 ≤ (W Q).2) (j : Int) : 0 ≤ (fs1 w x3 k W P r j).2 := by
  unfold fs1
  split
  · have := fon_pos (w := w) (P := P) (r := r) (c := j / x3) (t := if x3 = 1 then k else j % 4) h; omega
  · exact Int.le_refl 0
theorem fs1_4 {w : Bool} {k : Int} {W : iv_M → Int × Int} {P : iv_M} {r : Int} : ftm w true k W P r = fs1 w 4 k W P r := by
  funext j
  unfold ftm fs1
  by_cases e : ffr P (j / 4) = true
  · rw [if_pos ⟨Or.inl rfl, e⟩, if_pos e, if_neg (by decide)]
  · rw [if_neg (fun z => e z.2), if_neg e]
theorem fs1_1 {w : Bool} {k : Int} {W : iv_M → Int × Int} {P : iv_M} {r : Int} (k0 : 0 ≤ k) (k1 : k < 4) : ∀ (e : Nat) (t : Int), fsm (ftm w false k W P r) (4 * e) (4 * t) = fsm (fs1 w 1 k W P r) e t := by
  intro e
  induction e with
  | zero => intro t; rfl
  | succ e ih =>
    intro t
    rw [show 4 * (e + 1) = 4 + 4 * e by omega, fsm_add]
    show _ = fad (fs1 w 1 k W P r t) (fsm (fs1 w 1 k W P r) e (t + 1))
    rw [show 4 * t + ((4 : Nat) : Int) = 4 * (t + 1) by omega, ih]
    have f4 : fsm (ftm w false k W P r) 4 (4 * t) = fad (ftm w false k W P r (4 * t)) (fad (ftm w false k W P r (4 * t + 1)) (fad (ftm w false k W P r (4 * t + 1 + 1)) (fad (ftm w false k W P r (4 * t + 1 + 1 + 1)) (0, 0)))) := rfl
    rw [f4]
    have tm : ∀ j : Int, j / 4 = t → ftm w false k W P r j = if j % 4 = k then fs1 w 1 k W P r t else (0, 0) := fun j hj => by
      unfold ftm fs1
      rw [hj, Int.ediv_one, if_pos (show (1 : Int) = 1 from rfl)]
      by_cases g : j % 4 = k
      · rw [if_pos g]
        by_cases u : ffr P t = true
        · rw [if_pos ⟨Or.inr g, u⟩, if_pos u, g]
        · rw [if_neg (fun z => u z.2), if_neg u]
      · rw [if_neg g, if_neg (fun z => z.1.elim (by decide) g)]
    rw [tm _ (by omega), tm _ (by omega), tm _ (by omega), tm _ (by omega)]
    have : k = 0 ∨ k = 1 ∨ k = 2 ∨ k = 3 := by omega
    rcases this with u | u | u | u
    · rw [if_pos (by omega), if_neg (by omega), if_neg (by omega), if_neg (by omega)]; simp only [fad_0]
    · rw [if_neg (by omega), if_pos (by omega), if_neg (by omega), if_neg (by omega)]; simp only [fad_0, fad_0l]
    · rw [if_neg (by omega), if_neg (by omega), if_pos (by omega), if_neg (by omega)]; simp only [fad_0, fad_0l]
    · rw [if_neg (by omega), if_neg (by omega), if_neg (by omega), if_pos (by omega)]; simp only [fad_0, fad_0l]
def fFr (n : Int) (z0 z : iv_M) : Prop := (∀ a, a ≠ 113 → a ≠ 116 → a ≠ 117 → a ≠ 121 → a ≠ 158 → z a = z0 a) ∧ (∀ i, i ≠ 26 → i ≠ 27 → z 113 i = z0 113 i) ∧ (∀ i, ¬ (0 ≤ i ∧ i < n) → z 116 i = z0 116 i ∧ z 117 i = z0 117 i) ∧ ∀ i, ¬ (0 ≤ i ∧ i < 16) → z 121 i = z0 121 i
theorem fFr_121 {n : Int} {z0 z : iv_M} {c v : Int} (h : fFr n z0 z) (c0 : 0 ≤ c) (c1 : c < 16) : fFr n z0 (mu z 121 c v) := by
  obtain ⟨h1, h2, h3, h4⟩ := h
  refine ⟨fun a a1 a2 a3 a4 a5 => by rw [mu_rw a4]; exact h1 a a1 a2 a3 a4 a5, fun i i1 i2 => by rw [mu_rw (by decide)]; exact h2 i i1 i2, fun i hi => by rw [mu_rw (by decide), mu_rw (by decide)]; exact h3 i hi, fun i hi => by rw [mu_ne (by rintro ⟨_, z⟩; omega)]; exact h4 i hi⟩
theorem fFr_158 {n : Int} {z0 z : iv_M} {c v : Int} (h : fFr n z0 z) : fFr n z0 (mu z 158 c v) := by
  obtain ⟨h1, h2, h3, h4⟩ := h
  refine ⟨fun a a1 a2 a3 a4 a5 => by rw [mu_rw a5]; exact h1 a a1 a2 a3 a4 a5, fun i i1 i2 => by rw [mu_rw (by decide)]; exact h2 i i1 i2, fun i hi => by rw [mu_rw (by decide), mu_rw (by decide)]; exact h3 i hi, fun i hi => by rw [mu_rw (by decide)]; exact h4 i hi⟩
theorem fFr_116 {n : Int} {z0 z : iv_M} {r v : Int} (h : fFr n z0 z) (r0 : 0 ≤ r) (r1 : r < n) : fFr n z0 (mu z 116 r v) := by
  obtain ⟨h1, h2, h3, h4⟩ := h
  refine ⟨fun a a1 a2 a3 a4 a5 => by rw [mu_rw a2]; exact h1 a a1 a2 a3 a4 a5, fun i i1 i2 => by rw [mu_rw (by decide)]; exact h2 i i1 i2, fun i hi => ⟨by rw [mu_ne (by rintro ⟨_, z⟩; omega)]; exact (h3 i hi).1, by rw [mu_rw (by decide)]; exact (h3 i hi).2⟩, fun i hi => by rw [mu_rw (by decide)]; exact h4 i hi⟩
theorem fFr_117 {n : Int} {z0 z : iv_M} {r v : Int} (h : fFr n z0 z) (r0 : 0 ≤ r) (r1 : r < n) : fFr n z0 (mu z 117 r v) := by
  obtain ⟨h1, h2, h3, h4⟩ := h
  refine ⟨fun a a1 a2 a3 a4 a5 => by rw [mu_rw a3]; exact h1 a a1 a2 a3 a4 a5, fun i i1 i2 => by rw [mu_rw (by decide)]; exact h2 i i1 i2, fun i hi => ⟨by rw [mu_rw (by decide)]; exact (h3 i hi).1, by rw [mu_ne (by rintro ⟨_, z⟩; omega)]; exact (h3 i hi).2⟩, fun i hi => by rw [mu_rw (by decide)]; exact h4 i hi⟩
theorem fFr_flr {n : Int} {z0 z : iv_M} {r c v : Int} (h : fFr n z0 z) (r0 : 0 ≤ r) (r1 : r < n) (c0 : 0 ≤ c) (c1 : c < 16) : fFr n z0 (flr z r c v) := fFr_121 (fFr_117 (fFr_116 h r0 r1) r0 r1) c0 c1
theorem fsM_row {z : iv_M} {j : Nat} {a : Nat} (h : a ≠ 113) : fsM z j a = z a := by
  unfold fsM
  split
  · rfl
  · rw [mu_rw h, mu_rw h]
theorem fsM_113 {z : iv_M} {j : Nat} {i : Int} (h : i ≠ 26) (h2 : i ≠ 27) : fsM z j 113 i = z 113 i := by
  unfold fsM
  split
  · rfl
  · rw [mu_ne (by omega), mu_ne (by omega)]
theorem fFr_fsM {n : Int} {z0 z : iv_M} {j : Nat} (h : fFr n z0 z) : fFr n z0 (fsM z j) := by
  obtain ⟨h1, h2, h3, h4⟩ := h
  refine ⟨fun a a1 a2 a3 a4 a5 => by rw [fsM_row a1]; exact h1 a a1 a2 a3 a4 a5, fun i i1 i2 => by rw [fsM_113 i1 i2]; exact h2 i i1 i2, fun i hi => by rw [fsM_row (by decide), fsM_row (by decide)]; exact h3 i hi, fun i hi => by rw [fsM_row (by decide)]; exact h4 i hi⟩
theorem fun1_row {z : iv_M} {r t : Int} {a : Nat} (h : a ≠ 121) : fun1 z r t a = z a := by
  unfold fun1
  split
  · rw [mu_rw h]
  · rfl
theorem fun1_Fr {n : Int} {z0 z : iv_M} {r t : Int} (h : fFr n z0 z) (hc : 0 < t → 0 ≤ z 116 r ∧ z 116 r < 16) : fFr n z0 (fun1 z r t) := by
  unfold fun1
  split
  · next g => exact fFr_121 h (hc g.1).1 (hc g.1).2
  · exact h
theorem fun_back {z P : iv_M} {r c v t : Int} {rs : List Int} (h : rE z (flr P r c v)) (hT : fTP (r :: rs) P) (fr : ffr P c = true) (c0 : 0 ≤ c) (c1 : c < 16) (t0 : 0 < t) : z 116 r = c ∧ rE (fun1 z r t) P := by
  obtain ⟨r0, r1, rn⟩ := hT.2.2.1 r List.mem_cons_self
  have e1 : flr P r c v 121 c = r := by rw [flr_21, if_pos rfl]
  have h6 : z 116 r = c := by
    have := (h.2.2.2 c c0 c1 (by rw [e1]; omega)).1
    rw [e1] at this; exact this
  have h1 : z 121 c = r := by rw [h.2.2.1, e1]
  have hp := (ffr_iff.mp fr).2.2
  refine ⟨h6, ?_⟩
  unfold fun1
  rw [h6, if_pos ⟨t0, h1⟩]
  refine ⟨?_, ?_, ?_, fun c' c0' c1' hn => ?_⟩
  · rw [mu_rw (by decide), h.1, flr_o (by decide) (by decide) (by decide)]
  · rw [mu_rw (by decide), h.2.1, flr_o (by decide) (by decide) (by decide)]
  · funext i
    by_cases e : i = c
    · rw [e, mu_eq, hp]
    · rw [mu_ne (fun z => e z.2), h.2.2.1, flr_21, if_neg e]
  · rw [mu_rw (by decide), mu_rw (by decide)]
    have e : c' ≠ c := fun e => hn (by rw [e, hp])
    have := h.2.2.2 c' c0' c1' (by rw [flr_21, if_neg e]; exact hn)
    rw [flr_21, if_neg e, flr_17, if_neg (rn c' c0' c1')] at this
    exact this
def fOut (N : Nat) (x1 x2 x3 : Int) (kx : iv_M → Int → Int → Option (Int × iv_M)) (n : Int) (z0 z P : iv_M) (a x5 : Int) (l : Nat) (S : Int × Int) (kb : Nat) : Prop :=
  (x5 + S.2 ≤ 20000 ∧ ∃ (K : Nat) (z' : iv_M), (K : Int) ≤ kb + 130 * S.2 ∧ (∀ f : Nat, FX12_floors_l93 N 113 x1 x2 x3 kx (f + K) z (w32 a) x5 (l : Int) = FX12_floors_l93 N 113 x1 x2 x3 kx f z' (w32 (a + S.1)) (x5 + S.2) ((l : Int) - 1)) ∧ rE z' P ∧ fFr n z0 z' ∧ ∀ j : Nat, j < l → z' 158 j = z 158 j) ∨
  (20000 < x5 + S.2 ∧ ∃ (K : Nat) (z' : iv_M) (b x : Int), (K : Int) ≤ kb + 130 * (20001 - x5) ∧ 20000 < x ∧ (∀ f : Nat, FX12_floors_l93 N 113 x1 x2 x3 kx (f + K) z (w32 a) x5 (l : Int) = kx z' b x) ∧ fFr n z0 z')
theorem fOut_mono {N : Nat} {x1 x2 x3 : Int} {kx : iv_M → Int → Int → Option (Int × iv_M)} {n : Int} {z0 z P : iv_M} {a x5 : Int} {l : Nat} {S : Int × Int} {kb kb' : Nat} (h : kb ≤ kb') (hO : fOut N x1 x2 x3 kx n z0 z P a x5 l S kb) : fOut N x1 x2 x3 kx n z0 z P a x5 l S kb' := by
  rcases hO with ⟨a1, K, z', a2, a3⟩ | ⟨a1, K, z', b, x, a2, a3⟩
  · exact Or.inl ⟨a1, K, z', by omega, a3⟩
  · exact Or.inr ⟨a1, K, z', b, x, by omega, a3⟩
theorem fOut_step {N : Nat} {x1 x2 x3 : Int} {kx : iv_M → Int → Int → Option (Int × iv_M)} {n : Int} {z0 z y P : iv_M} {a x5 : Int} {l : Nat} {S T : Int × Int} {kb K1 : Nat} (hK : (K1 : Int) ≤ 1 + 130 * T.2) (hst : ∀ f : Nat, FX12_floors_l93 N 113 x1 x2 x3 kx (f + K1) z (w32 a) x5 (l : Int) = FX12_floors_l93 N 113 x1 x2 x3 kx f y (w32 (a + T.1)) (x5 + T.2) (l : Int)) (hj : ∀ j : Nat, j < l → y 158 j = z 158 j) (hO : fOut N x1 x2 x3 kx n z0 y P (a + T.1) (x5 + T.2) l S kb) : fOut N x1 x2 x3 kx n z0 z P a x5 l (fad T S) (kb + 1) := by
  have f1 : (fad T S).1 = T.1 + S.1 := rfl
  have f2 : (fad T S).2 = T.2 + S.2 := rfl
  rcases hO with ⟨a1, K, z', a2, a3, a4, a5, a6⟩ | ⟨a1, K, z', b, x, a2, a3, a4, a5⟩
  · refine Or.inl ⟨by omega, K + K1, z', by rw [f2]; omega, fun f => ?_, a4, a5, fun j h => by rw [a6 j h, hj j h]⟩
    rw [← Nat.add_assoc, hst, a3, f1, f2, Int.add_assoc, Int.add_assoc]
  · refine Or.inr ⟨by omega, K + K1, z', b, x, by omega, a3, fun f => ?_, a5⟩
    rw [← Nat.add_assoc, hst, a4]
theorem fOut_over {N : Nat} {x1 x2 x3 : Int} {kx : iv_M → Int → Int → Option (Int × iv_M)} {n : Int} {z0 z y P : iv_M} {a b x5 x l' : Int} {l : Nat} {S : Int × Int} {kb : Nat} (h5 : x5 ≤ 20000) (hx : 20000 < x) (hS : 20000 < x5 + S.2) (hl : 0 ≤ l') (h1 : 0 < x1) (hst : ∀ f : Nat, FX12_floors_l93 N 113 x1 x2 x3 kx (f + 1) z (w32 a) x5 (l : Int) = FX12_floors_l93 N 113 x1 x2 x3 kx f y b x l') (hF : fFr n z0 y) : fOut N x1 x2 x3 kx n z0 z P a x5 l S kb := by
  refine Or.inr ⟨hS, 2, y, b, x, by omega, hx, fun f => ?_, hF⟩
  rw [show f + 2 = (f + 1) + 1 from rfl, hst, FX12_floors_l93, if_neg (by omega), if_neg (by omega), if_pos hx]
