-- MARKS: the class, and both
theorem emptyCell_ok {N q : Nat} {s B : iv_M} {e : Int} (hN : 100 ≤ N) (hF : FRc s q B) (he : emp B e) : FX9_emptyCell N s q = some e := by
  obtain ⟨⟨e0, e1⟩, e2, e3⟩ := he
  have lp : ∀ (d c f : Nat), (c : Int) + d = e → d < f → FX9_emptyCell_l2 N s q (fun (_ : Unit) => (some 0)) f (c : Int) = some e := by
    intro d
    induction d with
    | zero =>
      intro c f hc hf
      obtain ⟨f', rfl⟩ : ∃ f', f = f' + 1 := ⟨f - 1, by omega⟩
      have : (c : Int) = e := by omega
      rw [FX9_emptyCell_l2, if_neg (by omega), this, FX1_isEmptyCell_ok hF e0 e1, Option.bind_some, if_pos e2, if_neg (by decide)]
    | succ d ih =>
      intro c f hc hf
      obtain ⟨f', rfl⟩ : ∃ f', f = f' + 1 := ⟨f - 1, by omega⟩
      rw [FX9_emptyCell_l2, if_neg (by omega), FX1_isEmptyCell_ok hF (by omega) (by omega), Option.bind_some, if_neg (show ¬ ((c : Int) % 4 < B 114 0 ∧ (c : Int) / 4 < B 114 1 ∧ B 121 c = -1) from fun z => by have := e3 c (by omega) (by omega) z; omega), if_pos rfl, w32_id (by omega) (by omega)]
      exact ih (c + 1) f' (by omega) (by omega)
  unfold FX9_emptyCell
  exact lp e.toNat 0 N (by omega) (by omega)
theorem odd_in {N q1 : Nat} {x : iv_M} {e e' C0 : Int} {f g : Int → Int} {r n : Nat} {kx : iv_M → Int → Option (Int × iv_M)} (hr : r < n) (hn : n ≤ 12) (C1 : 0 ≤ C0) (C2 : C0 ≤ 1000) (hf : ∀ j : Nat, j < n → x (q1 + 1 + 1) j = f j) (hg : ∀ j : Nat, j < n → x 72 j = g j) : ∀ (d j fu : Nat) (c : Int), j + d = r → d < fu → c = C0 + evr (evA e f) (evA e' g) (r + 1) (j + 1) → FX9_isOdd_l148 N 64 q1 e e' (n : Int) (r : Int) (f r) (g r) kx fu x c (j : Int) = kx x (C0 + evr (evA e f) (evA e' g) (r + 1) (r + 1)) := by
  intro d
  induction d with
  | zero =>
    intro j fu c hj hfu hc
    obtain ⟨fu', rfl⟩ : ∃ f', fu = f' + 1 := ⟨fu - 1, by omega⟩
    have : j = r := by omega
    rw [FX9_isOdd_l148, if_pos (by omega), hc, this]
  | succ d ih =>
    intro j fu c hj hfu hc
    obtain ⟨fu', rfl⟩ : ∃ f', fu = f' + 1 := ⟨fu - 1, by omega⟩
    have bd := evr_bd (evA e f) (evA e' g) (r + 1) (j + 1)
    have hs := evs_01 (evA e f) (evA e' g) (r + 1) (j + 1)
    have hnx : evr (evA e f) (evA e' g) (r + 1) (j + 1 + 1) = evr (evA e f) (evA e' g) (r + 1) (j + 1) + evs (evA e f) (evA e' g) (r + 1) (j + 1) := rfl
    have := ih (j + 1) fu' (c + evs (evA e f) (evA e' g) (r + 1) (j + 1)) (by omega) (by omega) (by rw [hc, hnx]; omega)
    have b209 : ∀ v, v = evs (evA e f) (evA e' g) (r + 1) (j + 1) → FX9_isOdd_b209 N x 64 q1 e e' (n : Int) (r : Int) (f r) (g r) (j : Int) v c (FX9_isOdd_l148 N 64 q1 e e' (n : Int) (r : Int) (f r) (g r) kx fu') kx = kx x (C0 + evr (evA e f) (evA e' g) (r + 1) (r + 1)) := fun v hv => by
      unfold FX9_isOdd_b209
      rw [hv, w32_id (by omega) (by omega), w32_id (by omega) (by omega)]
      exact this
    have es : evs (evA e f) (evA e' g) (r + 1) (j + 1) = if (f r < f j ↔ g r < g j) then 0 else 1 := by unfold evs; rw [evA_s, evA_s, evA_s, evA_s]
    rw [FX9_isOdd_l148, if_neg (by omega)]
    unfold FX9_isOdd_b175 FX9_isOdd_b201
    simp only [Nat.reduceAdd]
    rw [rd_ok (by omega) (by omega), Option.bind_some, hf j (by omega), rd_ok (by omega) (by omega), Option.bind_some, hg j (by omega)]
    by_cases p : f j ≤ f r
    · rw [if_pos p]
      by_cases q : g j ≤ g r
      · rw [if_pos q, if_pos trivial]
        exact b209 0 (by rw [es, if_pos (by omega)])
      · rw [if_neg q, if_neg (by decide)]
        exact b209 1 (by rw [es, if_neg (by omega)])
    · rw [if_neg p, Option.bind_some]
      by_cases q : g j ≤ g r
      · rw [if_pos q, if_neg (by decide)]
        exact b209 1 (by rw [es, if_neg (by omega)])
      · rw [if_neg q, if_pos trivial]
        exact b209 0 (by rw [es, if_pos (by omega)])
theorem odd_out {N q1 : Nat} {x : iv_M} {e e' C0 : Int} {f g : Int → Int} {n : Nat} {kx : iv_M → Int → Option (Int × iv_M)} (hN : 100 ≤ N) (hn : n ≤ 12) (C1 : 0 ≤ C0) (C2 : C0 ≤ 100) (hf : ∀ j : Nat, j < n → x (q1 + 1 + 1) j = f j) (hg : ∀ j : Nat, j < n → x 72 j = g j) : ∀ (d r fu : Nat) (c : Int), r + d = n → d < fu → c = C0 + evt (evA e f) (evA e' g) (r + 1) → FX9_isOdd_l78 N 64 q1 e e' (n : Int) kx fu x c (r : Int) = kx x (C0 + evt (evA e f) (evA e' g) (n + 1)) := by
  intro d
  induction d with
  | zero =>
    intro r fu c hr hfu hc
    obtain ⟨fu', rfl⟩ : ∃ f', fu = f' + 1 := ⟨fu - 1, by omega⟩
    have : r = n := by omega
    rw [FX9_isOdd_l78, if_pos (by omega), hc, this]
  | succ d ih =>
    intro r fu c hr hfu hc
    obtain ⟨fu', rfl⟩ : ∃ f', fu = f' + 1 := ⟨fu - 1, by omega⟩
    have bd := evt_bd (evA e f) (evA e' g) (r + 1) (by omega)
    have hs := evs_01 (evA e f) (evA e' g) (r + 1) 0
    have h1 : evr (evA e f) (evA e' g) (r + 1) (0 + 1) = 0 + evs (evA e f) (evA e' g) (r + 1) 0 := rfl
    have hnx : evt (evA e f) (evA e' g) (r + 1 + 1) = evt (evA e f) (evA e' g) (r + 1) + evr (evA e f) (evA e' g) (r + 1) (r + 1) := rfl
    have b142 : ∀ v, v = evs (evA e f) (evA e' g) (r + 1) 0 → FX9_isOdd_b142 N x 64 q1 e e' (n : Int) (r : Int) (f r) (g r) v c (FX9_isOdd_l78 N 64 q1 e e' (n : Int) kx fu') kx = kx x (C0 + evt (evA e f) (evA e' g) (n + 1)) := fun v hv => by
      unfold FX9_isOdd_b142
      have inn := odd_in (N := N) (q1 := q1) (x := x) (e := e) (e' := e') (C0 := C0 + evt (evA e f) (evA e' g) (r + 1)) (f := f) (g := g) (r := r) (n := n) (kx := fun (s_1540 : iv_M) (x1541_5 : Int) => (FX9_isOdd_l78 N 64 q1 e e' (n : Int) kx fu' s_1540 x1541_5 (w32 ((r : Int) + 1)))) (by omega) hn (by omega) (by omega) hf hg r 0 N (w32 (c + v)) (by omega) (by omega) (by rw [hv, w32_id (by omega) (by omega), hc, h1]; omega)
      refine Eq.trans inn ?_
      show FX9_isOdd_l78 N 64 q1 e e' (n : Int) kx fu' x (C0 + evt (evA e f) (evA e' g) (r + 1) + evr (evA e f) (evA e' g) (r + 1) (r + 1)) (w32 ((r : Int) + 1)) = _
      rw [w32_id (by omega) (by omega)]
      exact ih (r + 1) fu' _ (by omega) (by omega) (by rw [hnx]; omega)
    have es : evs (evA e f) (evA e' g) (r + 1) 0 = if (f r < e ↔ g r < e') then 0 else 1 := by unfold evs; rw [evA_s, evA_s]; rfl
    rw [FX9_isOdd_l78, if_neg (by omega)]
    unfold FX9_isOdd_b122 FX9_isOdd_b134
    simp only [Nat.reduceAdd]
    rw [rd_ok (by omega) (by omega), Option.bind_some, rd_ok (by omega) (by omega), Option.bind_some, hf r (by omega), hg r (by omega)]
    by_cases p : e ≤ f r
    · rw [if_pos p]
      by_cases q : e' ≤ g r
      · rw [if_pos q, if_pos trivial]
        exact b142 0 (by rw [es, if_pos (by omega)])
      · rw [if_neg q, if_neg (by decide)]
        exact b142 1 (by rw [es, if_neg (by omega)])
    · rw [if_neg p]
      by_cases q : e' ≤ g r
      · rw [if_pos q, if_neg (by decide)]
        exact b142 1 (by rw [es, if_neg (by omega)])
      · rw [if_neg q, if_pos trivial]
        exact b142 0 (by rw [es, if_pos (by omega)])
theorem isOdd_ok {t : Int} {N : Nat} {s : iv_M} {k e e' : Int} (hN : 100 ≤ N) (h : Inv t s) (hd : hdr s k) (he : emp s e) (he' : emp (lay s (dC s k) (dT s k)) e') : ∃ y, FX9_isOdd N s 64 (now s) k = some (if (e % 4 + e / 4 + e' % 4 + e' / 4 + evt (evA e (s 116)) (evA e' (dC s k)) ((s 114 2).toNat + 1)) % 2 = 1 then 1 else 0, y) ∧ ∀ r, (r < 71 ∨ 77 < r) → y r = s r := by
  obtain ⟨h1, h2, h3, _⟩ := h
  obtain ⟨m1, m2, m3⟩ := now_ne h1
  have hW := h3.1
  have hv := h3.2.2.2.2.2.2.1 k hd.1 hd.2.1 hd.2.2
  obtain ⟨p1, p2⟩ := h2.2.2.2.2.1 k hd.1 hd.2.1 hd.2.2
  have a4 := hW.1.2.2.2.2.1
  have a5 := hW.1.2.2.2.2.2.1
  have hWD := Wf_lay hW.1 hv
  obtain ⟨D, hD⟩ : ∃ D, D = lay s (dC s k) (dT s k) := ⟨_, rfl⟩
  rw [← hD] at he' hWD
  have D4 : D 114 = s 114 := by rw [hD]; exact lay_o (by omega) (by omega) (by omega)
  have D5 : D 115 = s 115 := by rw [hD]; exact lay_o (by omega) (by omega) (by omega)
  have D6 : ∀ r, 0 ≤ r → r < s 114 2 → D 116 r = dC s k r := fun r r0 r1 => by rw [hD]; exact lay_6 r0 r1
  have D7 : ∀ r, 0 ≤ r → r < s 114 2 → D 117 r = dT s k r := fun r r0 r1 => by rw [hD]; exact lay_7 r0 r1
  have hnb : nb D = nb s := by funext c d; exact nb_ext (by rw [D4]) (by rw [D4]) c d
  obtain ⟨c, c1, c2, c3, c4⟩ := FX1_copyFrom_ok (N := N) (q := 71) (p := now s + 1) (s := s) (B := s) hN TF_71 hW (by omega) h2.2.1.1 h2.2.1.2
  have oc : ∀ a, (a < 71 ∨ 77 < a) → c a = s a := fun a ha => by funext i; exact c4 a i ha
  obtain ⟨y, b1, b2, b3, b4⟩ := FX1_arrange_ok (N := N) (q := 71) (s := c) (B := D) (y := pkd 4 (dC s k) (s 114 2).toNat) (x := pkd 2 (dT s k) (s 114 2).toNat) hN TF_71 hWD (by rw [D4]; exact c2.1) (by rw [D4]; exact c2.2.1) (by rw [D4]; exact c2.2.2.1) (by rw [hnb]; exact c2.2.2.2.2.2.1) (by rw [D4, D5]; exact c2.2.2.2.2.2.2.1) (by rw [D4]; exact (pkd_congr _ (fun j j0 j1 => D6 j j0 (by omega))).symm) (by rw [D4]; exact (pkd_congr _ (fun j j0 j1 => D7 j j0 (by omega))).symm)
  have oy : ∀ a, (a < 71 ∨ 77 < a) → y a = s a := fun a ha => by rw [← oc a ha]; funext i; exact b4 a i (by omega)
  have hFy : FRc y (now s + 1) s := FRc_ext (fun a x0 x1 => oy a (by omega)) h2.2.1.1
  have E1 := emptyCell_ok (N := N) hN hFy he
  have E2 := emptyCell_ok (N := N) hN b2 he'
  obtain ⟨⟨q0, q1⟩, _⟩ := he
  obtain ⟨⟨q0', q1'⟩, _⟩ := he'
  refine ⟨y, ?_, oy⟩
  obtain ⟨n, hn⟩ : ∃ n, n = (s 114 2).toNat := ⟨_, rfl⟩
  have hn2 : s 114 2 = n := by omega
  have ev := evt_bd (evA e (s 116)) (evA e' (dC s k)) (n + 1) (by omega)
  have lo := odd_out (N := N) (q1 := now s) (x := y) (e := e) (e' := e') (C0 := e % 4 + e / 4 + e' % 4 + e' / 4) (f := s 116) (g := dC s k) (n := n) (kx := fun (s_1531 : iv_M) (x1532_5 : Int) => (if (bAn x1532_5 1) = 1 then (FX9_isOdd_b237 N s_1531 1) else (FX9_isOdd_b237 N s_1531 0))) hN (by omega) (by omega) (by omega) (fun j hj => (hFy.cell hW (by omega) (by omega)).1) (fun j hj => by rw [← D6 j (by omega) (by omega)]; exact (b2.cell hWD (by omega) (by rw [D4]; omega)).1) n 0 N (e % 4 + e / 4 + e' % 4 + e' / 4) (by omega) (by omega) (by show _ = _ + (0 + 0); omega)
  unfold FX9_isOdd
  simp only [Nat.reduceAdd]
  rw [c1, Option.bind_some, rd_ok hd.1 hd.2.1, Option.bind_some, rd_ok hd.1 hd.2.1, Option.bind_some, oc _ (by omega), oc _ (by omega), p1, p2, b1, Option.bind_some, E1, Option.bind_some, E2, Option.bind_some, hFy.2.2.1, hn2, bAn_3, bAn_3, sr32_2, sr32_2, w32_id (x := e % 4 + e / 4) (by omega) (by omega), w32_id (x := e % 4 + e / 4 + e' % 4) (by omega) (by omega), w32_id (x := e % 4 + e / 4 + e' % 4 + e' / 4) (by omega) (by omega)]
  refine Eq.trans lo ?_
  show (if (bAn (e % 4 + e / 4 + e' % 4 + e' / 4 + evt (evA e (s 116)) (evA e' (dC s k)) (n + 1)) 1) = 1 then (FX9_isOdd_b237 N y 1) else (FX9_isOdd_b237 N y 0)) = _
  rw [bAn_1, Int.toNat_natCast]
  unfold FX9_isOdd_b237
  by_cases q : (e % 4 + e / 4 + e' % 4 + e' / 4 + evt (evA e (s 116)) (evA e' (dC s k)) (n + 1)) % 2 = 1
  · rw [if_pos q, if_pos (Or.inr rfl), if_pos q]
  · rw [if_neg q, if_pos (Or.inl rfl), if_neg q]
-- marks room by room
def mkf (f : Int → Int) : Nat → Int
  | 0 => 0
  | r + 1 => if mkf f r = 1 then 1 else f r
def mvd (B : iv_M) (k r : Int) : Int := if dC B k r = B 116 r then 0 else 1
def tnd (B : iv_M) (k r : Int) : Int := if dT B k r = B 117 r then 0 else 1
def fxd (B : iv_M) (k r : Int) : Int := if B 118 r = 1 ∧ (mvd B k r = 1 ∨ tnd B k r = 1) then 1 else 0
theorem mvd_01 (B : iv_M) (k r : Int) : mvd B k r = 0 ∨ mvd B k r = 1 := by unfold mvd; split <;> omega
theorem tnd_01 (B : iv_M) (k r : Int) : tnd B k r = 0 ∨ tnd B k r = 1 := by unfold tnd; split <;> omega
theorem fxd_01 (B : iv_M) (k r : Int) : fxd B k r = 0 ∨ fxd B k r = 1 := by unfold fxd; split <;> omega
theorem mkf_01 {f : Int → Int} (h : ∀ r, f r = 0 ∨ f r = 1) : ∀ n : Nat, mkf f n = 0 ∨ mkf f n = 1 := by
  intro n
  cases n with
  | zero => exact Or.inl rfl
  | succ n =>
    show (if mkf f n = 1 then (1 : Int) else f n) = 0 ∨ (if mkf f n = 1 then (1 : Int) else f n) = 1
    by_cases e : mkf f n = 1
    · rw [if_pos e]; exact Or.inr rfl
    · rw [if_neg e]; exact h n
theorem orb_all : ∀ x2 x3 x4 p q r : Fin 2, bOr (bOr (bOr ((x2.val : Int) + 2 * x3.val + 4 * x4.val) p.val) (2 * q.val)) (4 * r.val) = (if x2 = 1 then 1 else (p.val : Int)) + 2 * (if x3 = 1 then 1 else (q.val : Int)) + 4 * (if x4 = 1 then 1 else (r.val : Int)) := by decide +kernel
theorem orb {x2 x3 x4 p q r : Int} (h2 : x2 = 0 ∨ x2 = 1) (h3 : x3 = 0 ∨ x3 = 1) (h4 : x4 = 0 ∨ x4 = 1) (hp : p = 0 ∨ p = 1) (hq : q = 0 ∨ q = 1) (hr : r = 0 ∨ r = 1) : bOr (bOr (bOr (x2 + 2 * x3 + 4 * x4) p) (2 * q)) (4 * r) = (if x2 = 1 then 1 else p) + 2 * (if x3 = 1 then 1 else q) + 4 * (if x4 = 1 then 1 else r) := by
  have key : ∀ x : Int, (x = 0 ∨ x = 1) → ∃ j : Fin 2, x = j.val ∧ (x = 1 ↔ j = 1) := fun x hx => by
    rcases hx with rfl | rfl
    · exact ⟨0, rfl, by decide⟩
    · exact ⟨1, rfl, by decide⟩
  obtain ⟨a, a1, a2⟩ := key x2 h2
  obtain ⟨b, b1, b2⟩ := key x3 h3
  obtain ⟨c, c1, c2⟩ := key x4 h4
  obtain ⟨d, d1, _⟩ := key p hp
  obtain ⟨e, e1, _⟩ := key q hq
  obtain ⟨f, f1, _⟩ := key r hr
  have := orb_all a b c d e f
  rw [← a1, ← b1, ← c1, ← d1, ← e1, ← f1] at this
  rw [this]
  simp only [a2, b2, c2]
theorem or8_all : ∀ a b c : Fin 2, bOr ((a.val : Int) + 2 * b.val + 4 * c.val) 8 = (a.val : Int) + 2 * b.val + 4 * c.val + 8 := by decide +kernel
theorem or8 {x2 x3 x4 : Int} (h2 : x2 = 0 ∨ x2 = 1) (h3 : x3 = 0 ∨ x3 = 1) (h4 : x4 = 0 ∨ x4 = 1) : bOr (x2 + 2 * x3 + 4 * x4) 8 = x2 + 2 * x3 + 4 * x4 + 8 := by
  have key : ∀ x : Int, (x = 0 ∨ x = 1) → ∃ j : Fin 2, x = j.val := fun x hx => by
    rcases hx with rfl | rfl
    · exact ⟨0, rfl⟩
    · exact ⟨1, rfl⟩
  obtain ⟨a, a1⟩ := key x2 h2
  obtain ⟨b, b1⟩ := key x3 h3
  obtain ⟨c, c1⟩ := key x4 h4
  have := or8_all a b c
  rw [← a1, ← b1, ← c1] at this
  exact this
def wf (c : Prop) [Decidable c] (f : Int → Int) (r : Int) : Int := if c then f r else 0
theorem mkf_wf {c : Prop} [Decidable c] {f : Int → Int} : ∀ n : Nat, mkf (wf c f) n = if c then mkf f n else 0 := by
  intro n
  induction n with
  | zero => show (0 : Int) = if c then 0 else 0; split <;> rfl
  | succ n ih =>
    show (if mkf (wf c f) n = 1 then 1 else wf c f n) = if c then (if mkf f n = 1 then 1 else f n) else 0
    rw [ih]
    unfold wf
    by_cases e : c
    · rw [if_pos e, if_pos e, if_pos e]
    · rw [if_neg e, if_neg e, if_neg e, if_neg (by decide)]
theorem marks_c {t : Int} {N : Nat} {s : iv_M} {k : Int} {kx : iv_M → Int → Option (Int × iv_M)} (h : Inv t s) (hd : hdr s k) : ∀ (d r f : Nat) (v : Int), (r : Int) + d = s 114 2 → d < f → v = mkf (fxd s k) r + 2 * mkf (wf (bAn (s 114 4) 4 = 0) (tnd s k)) r + 4 * mkf (wf (bAn (s 114 4) 3 = 0) (mvd s k)) r → FX9_marksOf_l5 N 64 (now s) k kx f s v (r : Int) = kx s (mkf (fxd s k) (r + d) + 2 * mkf (wf (bAn (s 114 4) 4 = 0) (tnd s k)) (r + d) + 4 * mkf (wf (bAn (s 114 4) 3 = 0) (mvd s k)) (r + d)) := by
  obtain ⟨h1, h2, h3, _⟩ := h
  have hW := h3.1
  have hv := h3.2.2.2.2.2.2.1 k hd.1 hd.2.1 hd.2.2
  obtain ⟨p1, p2⟩ := h2.2.2.2.2.1 k hd.1 hd.2.1 hd.2.2
  have a5 := hW.1.2.2.2.2.2.1
  have hB := h2.1.2.1
  have hF := h2.2.1.1
  have hd4 : ∀ i : Int, 0 ≤ i → i < ((s 114 2).toNat : Int) → 0 ≤ dC s k i ∧ dC s k i < 2 ^ 4 := fun i i0 i1 => by
    have := hv.1 i i0 (by omega); exact ⟨this.1, by simpa using this.2.1⟩
  have hd2 : ∀ i : Int, 0 ≤ i → i < ((s 114 2).toNat : Int) → 0 ≤ dT s k i ∧ dT s k i < 2 ^ 2 := fun i i0 i1 => by
    have := hv.1 i i0 (by omega); exact ⟨this.2.2.2.2.1, by simpa using this.2.2.2.2.2⟩
  intro d
  induction d with
  | zero =>
    intro r f v hr hf hvv
    obtain ⟨f', rfl⟩ : ∃ f', f = f' + 1 := ⟨f - 1, by omega⟩
    rw [FX9_marksOf_l5, if_pos (by rw [hF.2.2.1]; omega), hvv]; rfl
  | succ d ih =>
    intro r f v hr hf hvv
    obtain ⟨f', rfl⟩ : ∃ f', f = f' + 1 := ⟨f - 1, by omega⟩
    have r0 : (0 : Int) ≤ r := by omega
    have r1 : (r : Int) < s 114 2 := by omega
    obtain ⟨F1, F2⟩ := hF.cell hW r0 r1
    have dc : FX2_draftCell N s (now s) k (r : Int) = some (dC s k r) := by
      unfold FX2_draftCell
      rw [rd_ok hd.1 hd.2.1, Option.bind_some, p1, w32_id (x := 4 * (r : Int)) (by omega) (by omega), pk4_get (by omega) hd4 r0 (by omega)]
    have dtn : FX2_draftTurn N s (now s) k (r : Int) = some (dT s k r) := by
      unfold FX2_draftTurn
      rw [rd_ok hd.1 hd.2.1, Option.bind_some, p2, w32_id (x := 2 * (r : Int)) (by omega) (by omega), pk2_get (by omega) hd2 r0 (by omega)]
    have fx := FX2_isFixed_ok (N := N) hB r0 r1 (by omega)
    have wy : s (now s) 1 = s 114 4 := hB.1
    obtain ⟨T3, hT3⟩ : ∃ T, T = wf (bAn (s 114 4) 4 = 0) (tnd s k) := ⟨_, rfl⟩
    obtain ⟨T4, hT4⟩ : ∃ T, T = wf (bAn (s 114 4) 3 = 0) (mvd s k) := ⟨_, rfl⟩
    have T301 : ∀ i, T3 i = 0 ∨ T3 i = 1 := fun i => by rw [hT3]; unfold wf; split; exact tnd_01 s k i; exact Or.inl rfl
    have T401 : ∀ i, T4 i = 0 ∨ T4 i = 1 := fun i => by rw [hT4]; unfold wf; split; exact mvd_01 s k i; exact Or.inl rfl
    rw [← hT3, ← hT4] at hvv ih ⊢
    have hor := orb (mkf_01 (fxd_01 s k) r) (mkf_01 T301 r) (mkf_01 T401 r) (fxd_01 s k r) (T301 r) (T401 r)
    rw [← hvv] at hor
    have nx := ih (r + 1) f' (bOr (bOr (bOr v (fxd s k r)) (2 * T3 r)) (4 * T4 r)) (by omega) (by omega) hor
    rw [show r + 1 + d = r + (d + 1) by omega] at nx
    have b140 : ∀ p4, p4 = 4 * T4 r → FX9_marksOf_b140 N s 64 (now s) k (r : Int) p4 (bOr (bOr v (fxd s k r)) (2 * T3 r)) (FX9_marksOf_l5 N 64 (now s) k kx f') kx = kx s (mkf (fxd s k) (r + (d + 1)) + 2 * mkf T3 (r + (d + 1)) + 4 * mkf T4 (r + (d + 1))) := fun p4 hp => by
      unfold FX9_marksOf_b140
      rw [hp, w32_id (by omega) (by omega)]
      exact nx
    have b118 : ∀ p2, p2 = 2 * T3 r → FX9_marksOf_b118 N s 64 (now s) k (r : Int) (mvd s k r) p2 (bOr v (fxd s k r)) (FX9_marksOf_l5 N 64 (now s) k kx f') kx = kx s (mkf (fxd s k) (r + (d + 1)) + 2 * mkf T3 (r + (d + 1)) + 4 * mkf T4 (r + (d + 1))) := fun p2 hp => by
      unfold FX9_marksOf_b118 FX9_marksOf_b139
      rw [hp, wy]
      rcases mvd_01 s k r with e | e
      · rw [if_pos e]
        exact b140 0 (by rw [hT4]; unfold wf; rw [e]; split <;> rfl)
      · rw [if_neg (by omega)]
        by_cases w : bAn (s 114 4) 3 = 0
        · rw [if_pos w]
          exact b140 4 (by rw [hT4]; unfold wf; rw [if_pos w, e]; rfl)
        · rw [if_neg w]
          exact b140 0 (by rw [hT4]; unfold wf; rw [if_neg w]; rfl)
    have b96 : ∀ p1, p1 = fxd s k r → FX9_marksOf_b96 N s 64 (now s) k (r : Int) (mvd s k r) (tnd s k r) p1 v (FX9_marksOf_l5 N 64 (now s) k kx f') kx = kx s (mkf (fxd s k) (r + (d + 1)) + 2 * mkf T3 (r + (d + 1)) + 4 * mkf T4 (r + (d + 1))) := fun p1 hp => by
      unfold FX9_marksOf_b96 FX9_marksOf_b117
      rw [hp, wy]
      rcases tnd_01 s k r with e | e
      · rw [if_pos e]
        exact b118 0 (by rw [hT3]; unfold wf; rw [e]; split <;> rfl)
      · rw [if_neg (by omega)]
        by_cases w : bAn (s 114 4) 4 = 0
        · rw [if_pos w]
          exact b118 2 (by rw [hT3]; unfold wf; rw [if_pos w, e]; rfl)
        · rw [if_neg w]
          exact b118 0 (by rw [hT3]; unfold wf; rw [if_neg w]; rfl)
    have b69 : FX9_marksOf_b69 N s 64 (now s) k v (r : Int) (mvd s k r) (tnd s k r) (FX9_marksOf_l5 N 64 (now s) k kx f') kx = kx s (mkf (fxd s k) (r + (d + 1)) + 2 * mkf T3 (r + (d + 1)) + 4 * mkf T4 (r + (d + 1))) := by
      have b82 : (mvd s k r = 1 ∨ tnd s k r = 1) → FX9_marksOf_b82 N s 64 (now s) k (r : Int) (mvd s k r) (tnd s k r) v (FX9_marksOf_l5 N 64 (now s) k kx f') kx = kx s (mkf (fxd s k) (r + (d + 1)) + 2 * mkf T3 (r + (d + 1)) + 4 * mkf T4 (r + (d + 1))) := fun hm => by
        unfold FX9_marksOf_b82 FX9_marksOf_b95
        rw [fx, Option.bind_some]
        by_cases w : s 118 r = 1
        · rw [if_pos w, if_neg (by decide)]
          exact b96 1 (by unfold fxd; rw [if_pos ⟨w, hm⟩])
        · rw [if_neg w, if_pos rfl]
          exact b96 0 (by unfold fxd; rw [if_neg (fun z => w z.1)])
      unfold FX9_marksOf_b69
      rcases mvd_01 s k r with e | e
      · rw [if_pos e]
        rcases tnd_01 s k r with g | g
        · rw [if_pos g]
          unfold FX9_marksOf_b95
          exact b96 0 (by unfold fxd; rw [if_neg (by omega)])
        · rw [if_neg (by omega)]; exact b82 (Or.inr g)
      · rw [if_neg (by omega)]; exact b82 (Or.inl e)
    have b42 : FX9_marksOf_b42 N s 64 (now s) k v (r : Int) (mvd s k r) (FX9_marksOf_l5 N 64 (now s) k kx f') kx = kx s (mkf (fxd s k) (r + (d + 1)) + 2 * mkf T3 (r + (d + 1)) + 4 * mkf T4 (r + (d + 1))) := by
      unfold FX9_marksOf_b42
      rw [dtn, Option.bind_some, rd_ok r0 (by omega), Option.bind_some]
      have F2' : s (now s + 1 + 2) r = s 117 r := F2
      rw [F2']
      by_cases e : dT s k r = s 117 r
      · have : tnd s k r = 0 := if_pos e
        rw [this] at b69
        rw [if_pos e]; exact b69
      · have : tnd s k r = 1 := if_neg e
        rw [this] at b69
        rw [if_neg e]; exact b69
    rw [FX9_marksOf_l5, if_neg (by rw [hF.2.2.1]; omega), dc, Option.bind_some, rd_ok r0 (by omega), Option.bind_some]
    have F1' : s (now s + 1 + 1) r = s 116 r := F1
    rw [F1']
    by_cases e : dC s k r = s 116 r
    · have : mvd s k r = 0 := if_pos e
      rw [this] at b42
      rw [if_pos e]; exact b42
    · have : mvd s k r = 1 := if_neg e
      rw [this] at b42
      rw [if_neg e]; exact b42
theorem marks_r {N : Nat} {s : iv_M} {k : Int} {kx : iv_M → Int → Int → Int → Option (Int × iv_M)} (hW : Wf s) (k0 : 0 ≤ k) (k1 : k < 4) : ∀ (d r f : Nat), (r : Int) + d = s 114 2 → d < f → FX12_marks_l20 N 113 k kx f s (mkf (fxd s k) r) (mkf (tnd s k) r) (mkf (mvd s k) r) (r : Int) = kx s (mkf (fxd s k) (r + d)) (mkf (tnd s k) (r + d)) (mkf (mvd s k) (r + d)) := by
  have a5 := hW.1.2.2.2.2.2.1
  intro d
  induction d with
  | zero =>
    intro r f hr hf
    obtain ⟨f', rfl⟩ : ∃ f', f = f' + 1 := ⟨f - 1, by omega⟩
    rw [FX12_marks_l20]
    simp only [Nat.reduceAdd]
    rw [rd_ok (by omega) (by omega), Option.bind_some, if_pos (by omega)]; rfl
  | succ d ih =>
    intro r f hr hf
    obtain ⟨f', rfl⟩ : ∃ f', f = f' + 1 := ⟨f - 1, by omega⟩
    have nx := ih (r + 1) f' (by omega) (by omega)
    rw [show r + 1 + d = r + (d + 1) by omega] at nx
    have s2 : mkf (fxd s k) (r + 1) = if mkf (fxd s k) r = 1 then 1 else fxd s k r := rfl
    have s3 : mkf (tnd s k) (r + 1) = if mkf (tnd s k) r = 1 then 1 else tnd s k r := rfl
    have s4 : mkf (mvd s k) (r + 1) = if mkf (mvd s k) r = 1 then 1 else mvd s k r := rfl
    have b156 : ∀ p, p = mkf (mvd s k) (r + 1) → FX12_marks_b156 N s 113 k (mkf (fxd s k) (r + 1)) (mkf (tnd s k) (r + 1)) (r : Int) p (FX12_marks_l20 N 113 k kx f') kx = kx s (mkf (fxd s k) (r + (d + 1))) (mkf (tnd s k) (r + (d + 1))) (mkf (mvd s k) (r + (d + 1))) := fun p hp => by
      unfold FX12_marks_b156
      rw [hp, w32_id (by omega) (by omega)]; exact nx
    have b140 : ∀ p, p = mkf (tnd s k) (r + 1) → FX12_marks_b140 N s 113 k (mkf (fxd s k) (r + 1)) (mkf (mvd s k) r) (r : Int) (mvd s k r) p (FX12_marks_l20 N 113 k kx f') kx = kx s (mkf (fxd s k) (r + (d + 1))) (mkf (tnd s k) (r + (d + 1))) (mkf (mvd s k) (r + (d + 1))) := fun p hp => by
      unfold FX12_marks_b140 FX12_marks_b151
      rw [hp]
      rcases mkf_01 (mvd_01 s k) r with e | e
      · rw [if_pos e]
        rcases mvd_01 s k r with g | g
        · rw [if_pos g]; exact b156 0 (by rw [s4, if_neg (by omega), g])
        · rw [if_neg (by omega)]; exact b156 1 (by rw [s4, if_neg (by omega), g])
      · rw [if_neg (by omega)]; exact b156 1 (by rw [s4, if_pos e])
    have b125 : ∀ p, p = mkf (fxd s k) (r + 1) → FX12_marks_b125 N s 113 k (mkf (tnd s k) r) (mkf (mvd s k) r) (r : Int) (mvd s k r) (tnd s k r) p (FX12_marks_l20 N 113 k kx f') kx = kx s (mkf (fxd s k) (r + (d + 1))) (mkf (tnd s k) (r + (d + 1))) (mkf (mvd s k) (r + (d + 1))) := fun p hp => by
      unfold FX12_marks_b125 FX12_marks_b135
      rw [hp]
      rcases mkf_01 (tnd_01 s k) r with e | e
      · rw [if_pos e]
        rcases tnd_01 s k r with g | g
        · rw [if_pos g]; exact b140 0 (by rw [s3, if_neg (by omega), g])
        · rw [if_neg (by omega)]; exact b140 1 (by rw [s3, if_neg (by omega), g])
      · rw [if_neg (by omega)]; exact b140 1 (by rw [s3, if_pos e])
    have b93 : FX12_marks_b93 N s 113 k (mkf (fxd s k) r) (mkf (tnd s k) r) (mkf (mvd s k) r) (r : Int) (mvd s k r) (tnd s k r) (FX12_marks_l20 N 113 k kx f') kx = kx s (mkf (fxd s k) (r + (d + 1))) (mkf (tnd s k) (r + (d + 1))) (mkf (mvd s k) (r + (d + 1))) := by
      unfold FX12_marks_b93 FX12_marks_b120 FX12_marks_b124
      simp only [Nat.reduceAdd]
      rcases mkf_01 (fxd_01 s k) r with e | e
      · rw [if_pos e, rd_ok (by omega) (by omega), Option.bind_some]
        by_cases w : s 118 r = 1
        · rw [if_pos w]
          rcases mvd_01 s k r with g | g
          · rw [if_pos g]
            rcases tnd_01 s k r with q | q
            · rw [if_pos q]; exact b125 0 (by rw [s2, if_neg (by omega)]; unfold fxd; rw [if_neg (by omega)])
            · rw [if_neg (by omega)]; exact b125 1 (by rw [s2, if_neg (by omega)]; unfold fxd; rw [if_pos ⟨w, Or.inr q⟩])
          · rw [if_neg (by omega)]; exact b125 1 (by rw [s2, if_neg (by omega)]; unfold fxd; rw [if_pos ⟨w, Or.inl g⟩])
        · rw [if_neg w]; exact b125 0 (by rw [s2, if_neg (by omega)]; unfold fxd; rw [if_neg (fun z => w z.1)])
      · rw [if_neg (by omega)]; exact b125 1 (by rw [s2, if_pos e])
    have b60 : FX12_marks_b60 N s 113 k (mkf (fxd s k) r) (mkf (tnd s k) r) (mkf (mvd s k) r) (r : Int) (mvd s k r) (FX12_marks_l20 N 113 k kx f') kx = kx s (mkf (fxd s k) (r + (d + 1))) (mkf (tnd s k) (r + (d + 1))) (mkf (mvd s k) (r + (d + 1))) := by
      unfold FX12_marks_b60
      simp only [Nat.reduceAdd]
      rw [rd_ok (by omega) (by omega), Option.bind_some, w32_id (x := 24 * k) (by omega) (by omega), w32_id (x := 2 * (r : Int)) (by omega) (by omega), w32_id (x := 24 * k + 2 * (r : Int)) (by omega) (by omega), w32_id (by omega) (by omega), rd_ok (by omega) (by omega), Option.bind_some]
      have he : s 123 (24 * k + 2 * (r : Int) + 1) = dT s k r := rfl
      rw [he]
      by_cases e : dT s k r = s 117 r
      · have : tnd s k r = 0 := if_pos e
        rw [this] at b93
        rw [if_pos e.symm]; exact b93
      · have : tnd s k r = 1 := if_neg e
        rw [this] at b93
        rw [if_neg (fun z => e z.symm)]; exact b93
    rw [FX12_marks_l20]
    simp only [Nat.reduceAdd]
    rw [rd_ok (by omega) (by omega), Option.bind_some, if_neg (by omega), rd_ok (by omega) (by omega), Option.bind_some, w32_id (x := 24 * k) (by omega) (by omega), w32_id (x := 2 * (r : Int)) (by omega) (by omega), w32_id (by omega) (by omega), rd_ok (by omega) (by omega), Option.bind_some]
    have he : s 123 (24 * k + 2 * (r : Int)) = dC s k r := rfl
    rw [he]
    by_cases e : dC s k r = s 116 r
    · have : mvd s k r = 0 := if_pos e
      rw [this] at b60
      rw [if_pos e.symm]; exact b60
    · have : mvd s k r = 1 := if_neg e
      rw [this] at b60
      rw [if_neg (fun z => e z.symm)]; exact b60
theorem fxd_eb {B B' : iv_M} {k : Int} (h : Eb B B') : mvd B' k = mvd B k ∧ tnd B' k = tnd B k ∧ fxd B' k = fxd B k := by
  have dc : dC B' k = dC B k := by funext r; unfold dC; rw [h 123 (by omega) (by omega)]
  have dt : dT B' k = dT B k := by funext r; unfold dT; rw [h 123 (by omega) (by omega)]
  have e1 : mvd B' k = mvd B k := by funext r; unfold mvd; rw [dc, h 116 (by omega) (by omega)]
  have e2 : tnd B' k = tnd B k := by funext r; unfold tnd; rw [dt, h 117 (by omega) (by omega)]
  refine ⟨e1, e2, ?_⟩
  funext r; unfold fxd; rw [e1, e2, h 118 (by omega) (by omega)]
theorem ct_marks {t : Int} {N : Nat} {s : iv_M} {k : Int} (hN : 100 ≤ N) (h : Inv t s) (t0 : 0 ≤ t) (t1 : t ≤ 1000) : ∃ a s1 s2, FX11_marks N s 0 k = some (a, s1) ∧ FX12_marks N s1 113 k = some (a, s2) ∧ Inv (t + 1) s2 := by
  have hI := h
  obtain ⟨h1, h2, h3, h4, h5, h6, h7, h8, h9, h10⟩ := h
  obtain ⟨m1, m2, m3⟩ := now_ne h1
  have hq : (s 0 4).toNat = now s := rfl
  have hd8 : s (now s) 8 = s 114 11 := h2.1.2.2.2.2.2.2.2
  rcases FX2_hasDraft_ok (N := N) (k := k) hd8 with ⟨hd, c⟩ | ⟨hd, c⟩
  rotate_left
  · refine ⟨-1, s, s, ?_, ?_, HR1_mono (by omega) hI⟩
    · unfold FX11_marks FX11_marks_b27
      rw [hq, c, Option.bind_some, if_pos rfl]
    · unfold FX12_marks
      rcases FX12_isDraft_ok (N := N) (s := s) (k := k) with ⟨z, _⟩ | ⟨_, r⟩
      · exact absurd z hd
      · rw [r, Option.bind_some, if_pos rfl]
  have hW := h3.1
  obtain ⟨a0, a1, a2, a3, a4, a5, _⟩ := id hW.1
  have hv := h3.2.2.2.2.2.2.1 k hd.1 hd.2.1 hd.2.2
  obtain ⟨n, hn⟩ : ∃ n, n = (s 114 2).toNat := ⟨_, rfl⟩
  have hn2 : s 114 2 = n := by omega
  obtain ⟨V, hV⟩ : ∃ V, V = mkf (fxd s k) n + 2 * mkf (wf (bAn (s 114 4) 4 = 0) (tnd s k)) n + 4 * mkf (wf (bAn (s 114 4) 3 = 0) (mvd s k)) n := ⟨_, rfl⟩
  have M2 := mkf_01 (fxd_01 s k) n
  have M3 := mkf_01 (tnd_01 s k) n
  have M4 := mkf_01 (mvd_01 s k) n
  have mul : 0 ≤ s 114 0 * s 114 1 ∧ s 114 0 * s 114 1 ≤ 16 := by
    refine ⟨Int.mul_nonneg a0 a2, ?_⟩
    have := Int.mul_le_mul a1 a3 a2 (by omega : (0 : Int) ≤ 4)
    omega
  have cl := marks_c (N := N) (kx := fun (s_1549 : iv_M) (x1550_3 : Int) => (if (bAn (s_1549 (now s) 1) 2) = 0 then ((FX1_emptyCells N s_1549 (now s + 1)).bind fun v_1553 => (if v_1553 = 1 then ((FX9_isOdd N s_1549 64 (now s) k).bind fun r_1555 => (fun (v_1555 : Int) (s_1556 : iv_M) => (if v_1555 = 0 then (FX9_marksOf_b182 N s_1556 x1550_3) else (FX9_marksOf_b182 N s_1556 (bOr x1550_3 8)))) r_1555.1 r_1555.2) else (FX9_marksOf_b182 N s_1549 x1550_3))) else (FX9_marksOf_b182 N s_1549 x1550_3))) hI hd n 0 N 0 (by omega) (by omega) (by show (0 : Int) = 0 + 2 * 0 + 4 * 0; rfl)
  rw [Nat.zero_add, ← hV] at cl
  have wy : s (now s) 1 = s 114 4 := h2.1.2.1.1
  have hF := h2.2.1.1
  have ec : FX1_emptyCells N s (now s + 1) = some (s 114 0 * s 114 1 - s 114 2) := by
    unfold FX1_emptyCells
    rw [hF.1, hF.2.1, hF.2.2.1, w32_id (x := s 114 0 * s 114 1) (by omega) (by omega), w32_id (by omega) (by omega)]
  have clm : FX11_marks N s 0 k = (if (bAn (s 114 4) 2) = 0 then (if s 114 0 * s 114 1 - s 114 2 = 1 then ((FX9_isOdd N s 64 (now s) k).bind fun r_1555 => (if r_1555.1 = 0 then some (V, r_1555.2) else some (bOr V 8, r_1555.2))) else some (V, s)) else some (V, s)) := by
    unfold FX11_marks FX11_marks_b27 FX9_marksOf
    simp only [Nat.reduceAdd, Nat.zero_add]
    rw [hq, c, Option.bind_some, if_neg (by decide)]
    have cl' : FX9_marksOf_l5 N 64 (now s) k (fun (s_1549 : iv_M) (x1550_3 : Int) => (if (bAn (s_1549 (now s) 1) 2) = 0 then ((FX1_emptyCells N s_1549 (now s + 1)).bind fun v_1553 => (if v_1553 = 1 then ((FX9_isOdd N s_1549 64 (now s) k).bind fun r_1555 => (fun (v_1555 : Int) (s_1556 : iv_M) => (if v_1555 = 0 then (FX9_marksOf_b182 N s_1556 x1550_3) else (FX9_marksOf_b182 N s_1556 (bOr x1550_3 8)))) r_1555.1 r_1555.2) else (FX9_marksOf_b182 N s_1549 x1550_3))) else (FX9_marksOf_b182 N s_1549 x1550_3))) N s 0 0 = _ := cl
    rw [cl']
    dsimp only
    unfold FX9_marksOf_b182
    rw [wy, ec, Option.bind_some]
    have idb : ∀ o : Option (Int × iv_M), (o.bind fun r => some (r.1, r.2)) = o := fun o => by cases o <;> rfl
    exact idb _
  have V01 : V = mkf (fxd s k) n + 2 * (if bAn (s 114 4) 4 = 0 then mkf (tnd s k) n else 0) + 4 * (if bAn (s 114 4) 3 = 0 then mkf (mvd s k) n else 0) := by rw [hV, mkf_wf, mkf_wf]
  have rfm : ∀ s1 : iv_M, (∀ a, (a < 71 ∨ 77 < a) → s1 a = s a) → FX12_marks N s1 113 k = (if (bAn (s 114 4) 2) = 0 then (if s 114 0 * s 114 1 - s 114 2 = 1 then ((FX12_canBySlides N s1 113 k).bind fun r_3770 => (if r_3770.1 = 0 then some (V + 8, r_3770.2) else some (V, r_3770.2))) else some (V, s1)) else some (V, s1)) := fun s1 hs1 => by
    have hb : Eb s s1 := fun a z0 z1 => hs1 a (by omega)
    obtain ⟨g1, g2, g3⟩ := fxd_eb (k := k) hb
    have e4 := hb 114 (by omega) (by omega)
    have hd1 : hdr s1 k := (hdr_eb hb).mpr hd
    have rl := marks_r (N := N) (s := s1) (k := k) (kx := fun (s_3742 : iv_M) (x3743_2 : Int) (x3743_3 : Int) (x3743_4 : Int) => ((rd s_3742 114 14 4).bind fun v_3744 => (if x3743_2 = 0 then (FX12_marks_b181 N s_3742 113 k x3743_3 x3743_4 v_3744 0) else (FX12_marks_b181 N s_3742 113 k x3743_3 x3743_4 v_3744 1)))) (eb_Wf hb hW) hd.1 hd.2.1 n 0 N (by rw [e4]; omega) (by omega)
    rw [Nat.zero_add, g1, g2, g3] at rl
    have em : FX12_emptyMany N s1 113 = some (s 114 0 * s 114 1 - s 114 2) := by
      unfold FX12_emptyMany
      simp only [Nat.reduceAdd]
      rw [rd_ok (by omega) (by omega), Option.bind_some, rd_ok (by omega) (by omega), Option.bind_some, rd_ok (by omega) (by omega), Option.bind_some, e4, w32_id (x := s 114 0 * s 114 1) (by omega) (by omega), w32_id (by omega) (by omega)]
    have b223 : ∀ x y, 0 ≤ x → x ≤ 7 → 0 ≤ y → y ≤ 7 → x + y = V → FX12_marks_b223 N s1 113 k (s 114 4) x y = (if (bAn (s 114 4) 2) = 0 then (if s 114 0 * s 114 1 - s 114 2 = 1 then ((FX12_canBySlides N s1 113 k).bind fun r_3770 => (if r_3770.1 = 0 then some (V + 8, r_3770.2) else some (V, r_3770.2))) else some (V, s1)) else some (V, s1)) := fun x y x0 x1 y0 y1 hxy => by
      unfold FX12_marks_b223 FX12_marks_b256 FX12_marks_b257
      have w : w32 (y + x) = V := by rw [w32_id (by omega) (by omega)]; omega
      have w0 : w32 (V + 0) = V := by rw [w32_id (by omega) (by omega)]; omega
      have w8 : w32 (V + 8) = V + 8 := w32_id (by omega) (by omega)
      rw [em, Option.bind_some, w, w0, w8]
    have b201 : ∀ x y, (x = 0 ∨ x = 2) → (y = 0 ∨ y = 1) → x + y + 4 * (if bAn (s 114 4) 3 = 0 then mkf (mvd s k) n else 0) = V → FX12_marks_b201 N s1 113 k (mkf (mvd s k) n) (s 114 4) x y = (if (bAn (s 114 4) 2) = 0 then (if s 114 0 * s 114 1 - s 114 2 = 1 then ((FX12_canBySlides N s1 113 k).bind fun r_3770 => (if r_3770.1 = 0 then some (V + 8, r_3770.2) else some (V, r_3770.2))) else some (V, s1)) else some (V, s1)) := fun x y hx hy hxy => by
      unfold FX12_marks_b201 FX12_marks_b222
      have w : w32 (y + x) = y + x := w32_id (by omega) (by omega)
      rw [w]
      by_cases q : bAn (s 114 4) 3 = 0
      · rw [if_pos q] at hxy
        rw [if_pos q]
        rcases M4 with e | e
        · rw [if_pos e]; exact b223 0 (y + x) (by omega) (by omega) (by omega) (by omega) (by omega)
        · rw [if_neg (by omega)]; exact b223 4 (y + x) (by omega) (by omega) (by omega) (by omega) (by omega)
      · rw [if_neg q] at hxy
        rw [if_neg q]; exact b223 0 (y + x) (by omega) (by omega) (by omega) (by omega) (by omega)
    have b181 : ∀ y, (y = 0 ∨ y = 1) → y = mkf (fxd s k) n → FX12_marks_b181 N s1 113 k (mkf (tnd s k) n) (mkf (mvd s k) n) (s 114 4) y = (if (bAn (s 114 4) 2) = 0 then (if s 114 0 * s 114 1 - s 114 2 = 1 then ((FX12_canBySlides N s1 113 k).bind fun r_3770 => (if r_3770.1 = 0 then some (V + 8, r_3770.2) else some (V, r_3770.2))) else some (V, s1)) else some (V, s1)) := fun y hy hy2 => by
      unfold FX12_marks_b181 FX12_marks_b200
      by_cases q : bAn (s 114 4) 4 = 0
      · rw [if_pos q] at V01
        rw [if_pos q]
        rcases M3 with e | e
        · rw [if_pos e]; exact b201 0 y (by omega) hy (by rw [V01, hy2, e]; omega)
        · rw [if_neg (by omega)]; exact b201 2 y (by omega) hy (by rw [V01, hy2, e]; omega)
      · rw [if_neg q] at V01
        rw [if_neg q]; exact b201 0 y (by omega) hy (by rw [V01, hy2]; omega)
    unfold FX12_marks
    simp only [Nat.reduceAdd]
    rcases FX12_isDraft_ok (N := N) (s := s1) (k := k) with ⟨_, r⟩ | ⟨z, _⟩
    · rw [r, Option.bind_some, if_neg (by decide)]
      refine Eq.trans rl ?_
      show ((rd s1 114 14 4).bind fun v_3744 => (if mkf (fxd s k) n = 0 then (FX12_marks_b181 N s1 113 k (mkf (tnd s k) n) (mkf (mvd s k) n) v_3744 0) else (FX12_marks_b181 N s1 113 k (mkf (tnd s k) n) (mkf (mvd s k) n) v_3744 1))) = _
      rw [rd_ok (by omega) (by omega), Option.bind_some, e4]
      rcases M2 with e | e
      · rw [if_pos e]; exact b181 0 (by omega) e.symm
      · rw [if_neg (by omega)]; exact b181 1 (by omega) e.symm
    · exact absurd hd1 z
  have inv : ∀ s1 s2 : iv_M, (∀ a, (a < 71 ∨ 77 < a) → s1 a = s a) → (∀ a, a ≠ 155 → a ≠ 156 → s2 a = s1 a) → Inv (t + 1) s2 := fun s1 s2 hs1 hs2 => by
    have hh0 : s1 0 = s 0 := hs1 0 (by omega)
    have hE : Eb s s2 := fun a z0 z1 => by rw [hs2 a (by omega) (by omega), hs1 a (by omega)]
    have o : ∀ a, (a < 71 ∨ 77 < a) → a ≠ 155 → a ≠ 156 → s2 a = s a := fun a z0 z1 z2 => by rw [hs2 a z1 z2, hs1 a z0]
    have hmS : MeS s2 := by
      obtain ⟨b1, b2, b3⟩ := h7
      refine ⟨by rw [o 64 (by omega) (by omega) (by omega)]; exact b1, by rw [o 64 (by omega) (by omega) (by omega), o 0 (by omega) (by omega) (by omega)]; exact b2, fun q => ?_⟩
      rw [o 64 (by omega) (by omega) (by omega), o 0 (by omega) (by omega) (by omega)] at q
      exact SOK_er (Er.of_eb hE) (o 64 (by omega) (by omega) (by omega)) (o 80 (by omega) (by omega) (by omega)) (fun a ha => (o a (by omega) (by omega) (by omega)).symm) (b3 q)
    have hmR : MeR s2 := by
      obtain ⟨b1, b2, b3⟩ := h8
      refine ⟨by rw [o 81 (by omega) (by omega) (by omega)]; exact b1, by rw [o 81 (by omega) (by omega) (by omega), o 0 (by omega) (by omega) (by omega)]; exact b2, fun q => ?_⟩
      rw [o 81 (by omega) (by omega) (by omega), o 0 (by omega) (by omega) (by omega)] at q
      exact ROK_er (Er.of_eb hE) (o 81 (by omega) (by omega) (by omega)) (o 96 (by omega) (by omega) (by omega)) (o 97 (by omega) (by omega) (by omega)) (fun a ha => (o a (by omega) (by omega) (by omega)).symm) (b3 q)
    have h15 := h9.1
    exact Inv_bk (s1 := s1) hI (by omega) (fun i _ => by rw [hh0]) (by rw [hh0]; omega) (fun a ha => hs1 a (by omega)) (HR_ext (fun a z0 z1 => hs1 a (by omega)) h2) (WH_mono (by omega) h3) h5.2.2.2.1 h10 (fun a ha => hs2 a (by omega) (by omega)) (fun i hi => by rw [hs2 113 (by omega) (by omega)]) hE ⟨hmS, hmR⟩
  by_cases C : bAn (s 114 4) 2 = 0 ∧ s 114 0 * s 114 1 - s 114 2 = 1
  rotate_left
  · refine ⟨V, s, s, ?_, ?_, inv s s (fun _ _ => rfl) (fun _ _ _ => rfl)⟩
    · rw [clm]
      by_cases q : bAn (s 114 4) 2 = 0
      · rw [if_pos q, if_neg (fun z => C ⟨q, z⟩)]
      · rw [if_neg q]
    · rw [rfm s (fun _ _ => rfl)]
      by_cases q : bAn (s 114 4) 2 = 0
      · rw [if_pos q, if_neg (fun z => C ⟨q, z⟩)]
      · rw [if_neg q]
  obtain ⟨c1, c2⟩ := C
  obtain ⟨e, he⟩ := one_empty hW c2
  have hWD := Wf_lay hW.1 hv
  have D4 : lay s (dC s k) (dT s k) 114 = s 114 := lay_o (by omega) (by omega) (by omega)
  obtain ⟨e', he'⟩ := one_empty hWD (by rw [D4]; exact c2)
  obtain ⟨s1, o1, o2⟩ := isOdd_ok (N := N) hN hI hd he he'
  have hb : Eb s s1 := fun a z0 z1 => o2 a (by omega)
  have dce : dC s1 k = dC s k := by funext r; unfold dC; rw [hb 123 (by omega) (by omega)]
  have dte : dT s1 k = dT s k := by funext r; unfold dT; rw [hb 123 (by omega) (by omega)]
  have he1 : emp s1 e := by unfold emp; rw [hb 114 (by omega) (by omega), hb 121 (by omega) (by omega)]; exact he
  have he1' : emp (lay s1 (dC s1 k) (dT s1 k)) e' := by
    have q4 : lay s1 (dC s1 k) (dT s1 k) 114 = lay s (dC s k) (dT s k) 114 := by rw [lay_o (by omega) (by omega) (by omega), D4, hb 114 (by omega) (by omega)]
    have q1 : ∀ c, 0 ≤ c → c < 16 → lay s1 (dC s1 k) (dT s1 k) 121 c = lay s (dC s k) (dT s k) 121 c := fun c c0 c1 => by rw [lay_1 c0 c1, lay_1 c0 c1, dce, hb 114 (by omega) (by omega)]
    obtain ⟨z1, z2, z3⟩ := he'
    refine ⟨z1, ?_, fun c c0 c1 hc => ?_⟩
    · rw [q4, q1 e' z1.1 z1.2]; exact z2
    · rw [q4, q1 c c0 c1] at hc; exact z3 c c0 c1 hc
  obtain ⟨s2, r1, r2⟩ := canBySlides_ok (N := N) (x := s1) hN (eb_Wf hb hW) hd.1 hd.2.1 (by rw [dce, dte]; exact FV_congr (by rw [hb 114 (by omega) (by omega)]) (by rw [hb 114 (by omega) (by omega)]) (by rw [hb 114 (by omega) (by omega)]) (fun r _ _ => ⟨rfl, rfl⟩) hv) he1 he1'
  rw [hb 116 (by omega) (by omega), dce, hb 114 (by omega) (by omega)] at r1
  have clm' := clm
  rw [if_pos c1, if_pos c2, o1, Option.bind_some] at clm'
  have rfm' := rfm s1 o2
  rw [if_pos c1, if_pos c2, r1, Option.bind_some] at rfm'
  dsimp only at clm' rfm'
  by_cases q : (e % 4 + e / 4 + e' % 4 + e' / 4 + evt (evA e (s 116)) (evA e' (dC s k)) ((s 114 2).toNat + 1)) % 2 = 1
  · rw [if_pos q, if_neg (by decide)] at clm'
    rw [if_neg (show ¬ ((e % 4 + e / 4 + e' % 4 + e' / 4 + evt (evA e (s 116)) (evA e' (dC s k)) ((s 114 2).toNat + 1)) % 2 = 0) by omega), if_pos rfl] at rfm'
    have b8 : bOr V 8 = V + 8 := by
      rw [V01]
      refine or8 M2 ?_ ?_
      · split
        · exact M3
        · exact Or.inl rfl
      · split
        · exact M4
        · exact Or.inl rfl
    rw [b8] at clm'
    exact ⟨V + 8, s1, s2, clm', rfm', inv s1 s2 o2 r2⟩
  · rw [if_neg q, if_pos rfl] at clm'
    rw [if_pos (show (e % 4 + e / 4 + e' % 4 + e' / 4 + evt (evA e (s 116)) (evA e' (dC s k)) ((s 114 2).toNat + 1)) % 2 = 0 by omega), if_neg (by decide)] at rfm'
    exact ⟨V, s1, s2, clm', rfm', inv s1 s2 o2 r2⟩
