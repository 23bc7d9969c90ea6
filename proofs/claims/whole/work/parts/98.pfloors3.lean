-- FLOORS: all ways to lay the loose rooms, and how the class lays one
def fad (a b : Int × Int) : Int × Int := (a.1 + b.1, a.2 + b.2)
def fsm (g : Int → Int × Int) : Nat → Int → Int × Int
  | 0, _ => (0, 0)
  | m + 1, j => fad (g j) (fsm g m (j + 1))
def flr (P : iv_M) (r c t : Int) : iv_M := mu (mu (mu P 116 r c) 117 r t) 121 c r
def ffr (P : iv_M) (c : Int) : Bool := decide (c % 4 < P 114 0 ∧ c / 4 < P 114 1 ∧ P 121 c = -1)
def fon (w : Bool) (W : iv_M → Int × Int) (P : iv_M) (r c t : Int) : Int × Int := if (w && fdn (flr P r c t) r 4 0) = true then fad (0, 1) (W (flr P r c t)) else (0, 1)
def ftm (w tn : Bool) (k : Int) (W : iv_M → Int × Int) (P : iv_M) (r j : Int) : Int × Int := if (tn = true ∨ j % 4 = k) ∧ ffr P (j / 4) = true then fon w W P r (j / 4) (j % 4) else (0, 0)
def flw (w tn : Bool) (k : Int → Int) : List Int → iv_M → Int × Int
  | [], P => (if mm P = 0 then 1 else 0, 0)
  | r :: rs, P => fsm (ftm w tn (k r) (fun Q => flw w tn k rs Q) P r) 64 0
theorem fad_0 (a : Int × Int) : fad a (0, 0) = a := by unfold fad; simp
theorem fad_0l (a : Int × Int) : fad (0, 0) a = a := by unfold fad; simp
theorem fad_as (a b c : Int × Int) : fad (fad a b) c = fad a (fad b c) := by unfold fad; simp only [Int.add_assoc]
theorem fsm_add {g : Int → Int × Int} : ∀ (m n : Nat) (j : Int), fsm g (m + n) j = fad (fsm g m j) (fsm g n (j + m)) := by
  intro m
  induction m with
  | zero => intro n j; show fsm g (0 + n) j = fad (0, 0) (fsm g n (j + ((0 : Nat) : Int))); rw [fad_0l, Nat.zero_add, show j + ((0 : Nat) : Int) = j by omega]
  | succ m ih =>
    intro n j
    rw [show m + 1 + n = (m + n) + 1 by omega]
    show fad (g j) (fsm g (m + n) (j + 1)) = fad (fad (g j) (fsm g m (j + 1))) (fsm g n (j + ((m + 1 : Nat) : Int)))
    rw [ih, fad_as, show j + 1 + (m : Int) = j + ((m + 1 : Nat) : Int) by omega]
theorem fsm_nn {g : Int → Int × Int} (h : ∀ j, 0 ≤ (g j).2) : ∀ (m : Nat) (j : Int), 0 ≤ (fsm g m j).2 := by
  intro m
  induction m with
  | zero => intro j; exact Int.le_refl 0
  | succ m ih => intro j; exact Int.add_nonneg (h j) (ih (j + 1))
theorem fon_pos {w : Bool} {W : iv_M → Int × Int} {P : iv_M} {r c t : Int} (h : ∀ Q, 0 ≤ (W Q).2) : 1 ≤ (fon w W P r c t).2 := by
  unfold fon
  split
  · have := h (flr P r c t); show 1 ≤ 1 + (W (flr P r c t)).2; omega
  · exact Int.le_refl 1
theorem ftm_nn {w tn : Bool} {k : Int} {W : iv_M → Int × Int} {P : iv_M} {r : Int} (h : ∀ Q, 0 ≤ (W Q).2) (j : Int) : 0 ≤ (ftm w tn k W P r j).2 := by
  unfold ftm
  split
  · have := fon_pos (w := w) (P := P) (r := r) (c := j / 4) (t := j % 4) h; omega
  · exact Int.le_refl 0
theorem flw_nn {w tn : Bool} {k : Int → Int} : ∀ (L : List Int) (P : iv_M), 0 ≤ (flw w tn k L P).2 := by
  intro L
  induction L with
  | nil => intro P; exact Int.le_refl 0
  | cons r rs ih => intro P; exact fsm_nn (ftm_nn ih) 64 0
theorem w32_add_l (a b : Int) : w32 (w32 a + b) = w32 (a + b) := Int.bmod_add_bmod
def fSt (s : iv_M) (A : Int × Int) : Prop := ((0 ≤ A.2 ∧ A.2 ≤ 20000) ∧ s 102 1 = A.2 ∧ s 102 2 = w32 A.1 ∧ s 102 3 = 0) ∨ (20000 < A.2 ∧ s 102 1 = 20000 ∧ s 102 3 = 1)
theorem fSt_ext {s s' : iv_M} {A : Int × Int} (h : s' 102 = s 102) (hS : fSt s A) : fSt s' A := by unfold fSt at hS ⊢; rw [h]; exact hS
theorem fSt_more {s : iv_M} {A b : Int × Int} (h : 20000 < A.2) (hb : 0 ≤ b.2) (hS : fSt s A) : fSt s (fad A b) := by
  rcases hS with ⟨a, _⟩ | ⟨_, a2, a3⟩
  · omega
  · exact Or.inr ⟨by show 20000 < A.2 + b.2; omega, a2, a3⟩
def fTP (L : List Int) (P : iv_M) : Prop := Wa P ∧ Wc P ∧ (∀ r, r ∈ L → 0 ≤ r ∧ r < P 114 2 ∧ ∀ c, 0 ≤ c → c < 16 → P 121 c ≠ r) ∧ L.Nodup
theorem flr_o {P : iv_M} {r c t : Int} {a : Nat} (h : a ≠ 116) (h2 : a ≠ 117) (h3 : a ≠ 121) : flr P r c t a = P a := by
  unfold flr; rw [mu_rw h3, mu_rw h2, mu_rw h]
theorem flr_16 {P : iv_M} {r c t i : Int} : flr P r c t 116 i = if i = r then c else P 116 i := by
  unfold flr; rw [mu_rw (by decide), mu_rw (by decide)]; unfold mu; simp
theorem flr_17 {P : iv_M} {r c t i : Int} : flr P r c t 117 i = if i = r then t else P 117 i := by
  unfold flr; rw [mu_rw (by decide)]; unfold mu; simp
theorem flr_21 {P : iv_M} {r c t i : Int} : flr P r c t 121 i = if i = c then r else P 121 i := by
  unfold flr; unfold mu; simp
theorem ffr_iff {P : iv_M} {c : Int} : ffr P c = true ↔ (c % 4 < P 114 0 ∧ c / 4 < P 114 1 ∧ P 121 c = -1) := by unfold ffr; rw [decide_eq_true_iff]
theorem flr_TP {P : iv_M} {r c t : Int} {rs : List Int} (h : fTP (r :: rs) P) (c0 : 0 ≤ c) (c1 : c < 16) (t0 : 0 ≤ t) (t1 : t < 4) (hf : ffr P c = true) : fTP rs (flr P r c t) := by
  obtain ⟨h1, h2, h3, h4⟩ := h
  obtain ⟨f1, f2, f3⟩ := ffr_iff.mp hf
  obtain ⟨r0, r1, rn⟩ := h3 r List.mem_cons_self
  have e4 : flr P r c t 114 = P 114 := flr_o (by decide) (by decide) (by decide)
  have e5 : flr P r c t 115 = P 115 := flr_o (by decide) (by decide) (by decide)
  rw [List.nodup_cons] at h4
  refine ⟨?_, fun c' c0' c1' => ?_, fun r' hr' => ?_, h4.2⟩
  · unfold Wa at h1 ⊢; rw [e4, e5]; exact h1
  · rw [flr_21, e4]
    by_cases e : c' = c
    · right
      rw [if_pos e, flr_16, flr_17, if_pos rfl, if_pos rfl, e]
      exact ⟨r0, r1, rfl, t0, t1, f1, f2⟩
    · rw [if_neg e]
      rcases h2 c' c0' c1' with k | k
      · left; exact k
      · right
        have ne := rn c' c0' c1'
        rw [flr_16, flr_17, if_neg ne, if_neg ne]; exact k
  · obtain ⟨a, b, d⟩ := h3 r' (List.mem_cons_of_mem _ hr')
    refine ⟨a, by rw [e4]; exact b, fun c' c0' c1' => ?_⟩
    rw [flr_21]
    by_cases e : c' = c
    · rw [if_pos e]; intro z; rw [z] at h4; exact h4.1 hr'
    · rw [if_neg e]; exact d c' c0' c1'
theorem flr_put {s P : iv_M} {q : Nat} {r c t : Int} {rs : List Int} (hF : FRc s q P) (h : fTP (r :: rs) P) (t0 : 0 ≤ t) (t1 : t < 4) : FRc (putM s q r c t) q (flr P r c t) := by
  obtain ⟨h1, h2, h3, h4⟩ := h
  obtain ⟨r0, r1, rn⟩ := h3 r List.mem_cons_self
  have e4 : flr P r c t 114 = P 114 := flr_o (by decide) (by decide) (by decide)
  have e5 : flr P r c t 115 = P 115 := flr_o (by decide) (by decide) (by decide)
  have x1 : FRx (fun c' => c' = c) s q (flr P r c t) := FRc_x hF (by rw [e4]) (by rw [e4]) (by rw [e4]) (fun j => by rw [e5]) (fun c' c0 c1 hx => ⟨by rw [flr_21, if_neg hx], fun _ => by rw [flr_17, if_neg (rn c' c0 c1)]⟩)
  have x2 := put_fr (r := r) (c := c) (t := t) x1 ⟨r0, by rw [e4]; exact r1⟩ (by rw [flr_21, if_pos rfl]) (by rw [flr_17, if_pos rfl]) (fun c' c0 c1 hx _ => by rw [flr_21, if_neg hx]; exact rn c' c0 c1) t0 t1
  exact FRx_c x2 (fun c' _ _ z => z.2 z.1)
theorem flr_take {s P : iv_M} {q : Nat} {r c t : Int} {rs : List Int} (hF : FRc s q (flr P r c t)) (h : fTP (r :: rs) P) (hc : P 121 c = -1) : FRc (tkM s q c) q P := by
  obtain ⟨h1, h2, h3, h4⟩ := h
  obtain ⟨r0, r1, rn⟩ := h3 r List.mem_cons_self
  have e4 : flr P r c t 114 = P 114 := flr_o (by decide) (by decide) (by decide)
  have e5 : flr P r c t 115 = P 115 := flr_o (by decide) (by decide) (by decide)
  have x1 : FRx (fun c' => c' = c) s q P := FRc_x hF (by rw [e4]) (by rw [e4]) (by rw [e4]) (fun j => by rw [e5]) (fun c' c0 c1 hx => ⟨by rw [flr_21, if_neg hx], fun _ => by rw [flr_21, if_neg hx, flr_17, if_neg (rn c' c0 c1)]⟩)
  exact FRx_c (take_fr x1 hc) (fun c' _ _ z => z.2 z.1)
theorem layOne_ok {N q1 : Nat} {rc : iv_M → Nat → Nat → Int → Option iv_M} {s s0 P : iv_M} {A : Int × Int} {W : iv_M → Int × Int} {r c t : Int} {rs : List Int} (hN : 100 ≤ N) (hF : FRc s 103 P) (hT : fTP (r :: rs) P) (fr : ffr P c = true) (c0 : 0 ≤ c) (c1 : c < 16) (t0 : 0 ≤ t) (t1 : t < 4) (hS : fSt s A) (hO : Fo 102 109 s0 s)
    (hrc : ∀ (x : iv_M) (A' : Int × Int), FRc x 103 (flr P r c t) → fSt x A' → Fo 102 109 s0 x → ∃ x', rc x 102 q1 (r + 1) = some x' ∧ FRc x' 103 (flr P r c t) ∧ fSt x' (fad A' (W (flr P r c t))) ∧ Fo 102 109 s0 x') (hnn : ∀ Q, 0 ≤ (W Q).2) : ∃ s', FX4_layOne N rc s 102 q1 r c t = some s' ∧ FRc s' 103 P ∧ fSt s' (fad A (fon true W P r c t)) ∧ Fo 102 109 s0 s' := by
  obtain ⟨r0, r1, rn⟩ := hT.2.2.1 r List.mem_cons_self
  have r12 : r < 12 := by have := hT.1.2.2.2.2.2.1; omega
  have hT' := flr_TP hT c0 c1 t0 t1 fr
  have hpos := fon_pos (w := true) (P := P) (r := r) (c := c) (t := t) hnn
  have over : s 102 1 = 20000 → 20000 ≤ A.2 → ∃ s', (pt s 102 3 1).bind (fun s_769 => some s_769) = some s' ∧ FRc s' 103 P ∧ fSt s' (fad A (fon true W P r c t)) ∧ Fo 102 109 s0 s' := fun h1 h2 => by
    refine ⟨mu s 102 3 1, rfl, FRc_ext (fun a x y => mu_rw (by omega)) hF, Or.inr ⟨by show 20000 < A.2 + (fon true W P r c t).2; omega, by rw [mu_ne (by omega)]; exact h1, mu_eq⟩, fun a i h => by rw [mu_ne (by omega)]; exact hO a i h⟩
  unfold FX4_layOne
  rcases hS with ⟨a1, a2, a3, a4⟩ | ⟨a1, a2, a4⟩
  rotate_left
  · rw [if_neg (by omega)]
    exact over a2 (by omega)
  by_cases e : A.2 < 20000
  rotate_left
  · rw [if_neg (by omega)]
    exact over (by omega) (by omega)
  obtain ⟨x, hx⟩ : ∃ x, x = putM (mu s 102 1 (w32 (s 102 1 + 1))) 103 r c t := ⟨_, rfl⟩
  have hFm : FRc (mu s 102 1 (w32 (s 102 1 + 1))) 103 P := FRc_ext (fun a y z => mu_rw (by omega)) hF
  have xF : FRc x 103 (flr P r c t) := by rw [hx]; exact flr_put hFm hT t0 t1
  have xc : x 104 r = c := by
    have := (xF.2.2.2.2.2.2.2 c c0 c1 (by rw [flr_21, if_pos rfl]; omega)).1
    rw [flr_21, if_pos rfl] at this; exact this
  have xO : Fo 102 109 s0 x := fun a i h => by rw [hx, pm_out (by omega), mu_ne (by omega)]; exact hO a i h
  have xS : fSt x (fad A (0, 1)) := by
    refine Or.inl ⟨by show 0 ≤ A.2 + 1 ∧ A.2 + 1 ≤ 20000; omega, ?_, ?_, ?_⟩
    · rw [hx, pm_out (by omega), mu_eq, a2, w32_id (by omega) (by omega)]; rfl
    · rw [hx, pm_out (by omega), mu_ne (by omega), a3]; show w32 A.1 = w32 (A.1 + 0); rw [Int.add_zero]
    · rw [hx, pm_out (by omega), mu_ne (by omega), a4]
  have e4 : flr P r c t 116 r = c := by rw [flr_16, if_pos rfl]
  have fit := FX1_fits_ok (N := N) (q := 103) (s := x) (B := flr P r c t) (r := r) (by omega) xF hT'.1 r0 r12 (by rw [e4]; exact c0) (by rw [e4]; exact c1) (by rw [e4]; exact xc)
  have back : ∀ y : iv_M, FRc y 103 (flr P r c t) → Fo 102 109 s0 y → FX4_layOne_b56 N rc y 102 r = some (tkM y 103 c) ∧ FRc (tkM y 103 c) 103 P ∧ Fo 102 109 s0 (tkM y 103 c) ∧ tkM y 103 c 102 = y 102 := fun y yF yO => by
    have yc : y (103 + 1) r = c := by
      have := (yF.2.2.2.2.2.2.2 c c0 c1 (by rw [flr_21, if_pos rfl]; omega)).1
      rw [flr_21, if_pos rfl] at this; exact this
    refine ⟨?_, flr_take yF hT (ffr_iff.mp fr).2.2, fun a i h => by rw [tk_out (by omega) (by omega)]; exact yO a i h, by funext i; exact tk_out (by omega) (by omega)⟩
    unfold FX4_layOne_b56
    simp only [Nat.reduceAdd]
    rw [FX1_take_ok (by omega) r0 r12 yc c0 c1, Option.bind_some]
  rw [if_pos (by omega)]
  simp only [Nat.reduceAdd]
  rw [pt_ok, Option.bind_some, FX1_put_ok (by omega) (by decide) r0 r12 c0 c1 t0 t1, Option.bind_some, ← hx, fit, Option.bind_some, w32_id (x := r + 1) (by omega) (by omega)]
  by_cases g : fdn (flr P r c t) r 4 0 = true
  · rw [if_pos g, if_neg (by decide)]
    obtain ⟨x', y1, y2, y3, y4⟩ := hrc x _ xF xS xO
    obtain ⟨b1, b2, b3, b4⟩ := back x' y2 y4
    refine ⟨tkM x' 103 c, by rw [y1, Option.bind_some, b1], b2, fSt_ext b4 ?_, b3⟩
    unfold fon
    rw [Bool.true_and, if_pos g, ← fad_as]; exact y3
  · rw [if_neg g, if_pos rfl]
    obtain ⟨b1, b2, b3, b4⟩ := back x xF xO
    refine ⟨tkM x 103 c, b1, b2, fSt_ext b4 ?_, b3⟩
    unfold fon
    rw [Bool.true_and, if_neg g]; exact xS
