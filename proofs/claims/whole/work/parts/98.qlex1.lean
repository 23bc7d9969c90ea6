-- READING: blanks, letters, digits, words; what the class's reader does
def rn (f : Int → Bool) (b : Int → Int) (L : Int) : Nat → Int → Int
  | 0, p => p
  | n + 1, p => if p < L ∧ f (b p) = true then rn f b L n (p + 1) else p
def rnn (f : Int → Bool) (b : Int → Int) (L p : Int) : Int := rn f b L (L - p).toNat p
def isB (c : Int) : Bool := decide (c = 32)
def isLt (c : Int) : Bool := decide (97 ≤ c ∧ c ≤ 122)
def isDg (c : Int) : Bool := decide (48 ≤ c ∧ c ≤ 57)
theorem rnn_eq {f : Int → Bool} {b : Int → Int} {L p : Int} : rnn f b L p = if p < L ∧ f (b p) = true then rnn f b L (p + 1) else p := by
  unfold rnn
  by_cases e : p < L
  · rw [show (L - p).toNat = (L - (p + 1)).toNat + 1 by omega]
    rfl
  · rw [show (L - p).toNat = 0 by omega, if_neg (fun z => e z.1)]
    rfl
theorem rnn_go {f : Int → Bool} {b : Int → Int} {L p : Int} (h : p < L) (hf : f (b p) = true) : rnn f b L p = rnn f b L (p + 1) := by rw [rnn_eq, if_pos ⟨h, hf⟩]
theorem rnn_stop {f : Int → Bool} {b : Int → Int} {L p : Int} (h : ¬ (p < L ∧ f (b p) = true)) : rnn f b L p = p := by rw [rnn_eq, if_neg h]
theorem rnn_spec {f : Int → Bool} {b : Int → Int} {L : Int} : ∀ (n : Nat) (p : Int), (L - p).toNat = n → p ≤ rnn f b L p ∧ (p ≤ L → rnn f b L p ≤ L) ∧ (L ≤ p → rnn f b L p = p) ∧ ¬ (rnn f b L p < L ∧ f (b (rnn f b L p)) = true) ∧ ∀ i, p ≤ i → i < rnn f b L p → i < L ∧ f (b i) = true := by
  intro n
  induction n with
  | zero =>
    intro p hn
    rw [rnn_stop (by omega)]
    exact ⟨Int.le_refl p, fun h => h, fun _ => rfl, by omega, fun i h1 h2 => by omega⟩
  | succ n ih =>
    intro p hn
    by_cases e : p < L ∧ f (b p) = true
    · rw [rnn_go e.1 e.2]
      obtain ⟨a1, a2, a3, a4, a5⟩ := ih (p + 1) (by omega)
      refine ⟨by omega, fun h => a2 (by omega), fun h => by omega, a4, fun i h1 h2 => ?_⟩
      by_cases g : i = p
      · rw [g]; exact e
      · exact a5 i (by omega) h2
    · rw [rnn_stop e]
      exact ⟨Int.le_refl p, fun h => h, fun _ => rfl, e, fun i h1 h2 => by omega⟩
theorem rnn_ge {f : Int → Bool} {b : Int → Int} {L p : Int} : p ≤ rnn f b L p := (rnn_spec _ p rfl).1
theorem rnn_le {f : Int → Bool} {b : Int → Int} {L p : Int} (h : p ≤ L) : rnn f b L p ≤ L := (rnn_spec _ p rfl).2.1 h
theorem rnn_end {f : Int → Bool} {b : Int → Int} {L p : Int} : ¬ (rnn f b L p < L ∧ f (b (rnn f b L p)) = true) := (rnn_spec _ p rfl).2.2.2.1
theorem rnn_in {f : Int → Bool} {b : Int → Int} {L p i : Int} (h1 : p ≤ i) (h2 : i < rnn f b L p) : i < L ∧ f (b i) = true := (rnn_spec _ p rfl).2.2.2.2 i h1 h2
theorem rnn_idem {f : Int → Bool} {b : Int → Int} {L p : Int} : rnn f b L (rnn f b L p) = rnn f b L p := rnn_stop rnn_end
theorem rnn_mid {f : Int → Bool} {b : Int → Int} {L : Int} : ∀ (n : Nat) (p i : Int), (i - p).toNat = n → p ≤ i → i ≤ rnn f b L p → rnn f b L i = rnn f b L p := by
  intro n
  induction n with
  | zero => intro p i hn h1 h2; rw [show i = p by omega]
  | succ n ih =>
    intro p i hn h1 h2
    have e : p < L ∧ f (b p) = true := rnn_in (Int.le_refl p) (by omega)
    rw [rnn_go e.1 e.2] at h2 ⊢
    exact ih (p + 1) i (by omega) (by omega) h2
theorem rnn_congr {f : Int → Bool} {b b' : Int → Int} {L : Int} (h : ∀ i, 0 ≤ i → i < L → b' i = b i) : ∀ (n : Nat) (p : Int), 0 ≤ p → (L - p).toNat = n → rnn f b' L p = rnn f b L p := by
  intro n
  induction n with
  | zero => intro p p0 hn; rw [rnn_stop (by omega), rnn_stop (by omega)]
  | succ n ih =>
    intro p p0 hn
    rw [rnn_eq (b := b'), rnn_eq (b := b), h p p0 (by omega), ih (p + 1) (by omega) (by omega)]
abbrev bl (b : Int → Int) (L p : Int) : Int := rnn isB b L p
abbrev el (b : Int → Int) (L p : Int) : Int := rnn isLt b L p
abbrev edg (b : Int → Int) (L p : Int) : Int := rnn isDg b L p
def sg (b : Int → Int) (L p : Int) : Int := if p < L then b p % 256 else -1
/-- a text as it lies: bytes, and how many -/
def TX (b : Int → Int) (L : Int) : Prop := 0 ≤ L ∧ L ≤ 400 ∧ ∀ i, 0 ≤ i → i < L → -128 ≤ b i ∧ b i < 128
theorem sg_eq {b : Int → Int} {L p k : Int} (hT : TX b L) (p0 : 0 ≤ p) (k0 : 0 ≤ k) (k1 : k < 128) : sg b L p = k ↔ p < L ∧ b p = k := by
  unfold sg
  by_cases e : p < L
  · rw [if_pos e]
    have := hT.2.2 p p0 e
    omega
  · rw [if_neg e]
    omega
theorem sg_none {b : Int → Int} {L p : Int} (hT : TX b L) (p0 : 0 ≤ p) : sg b L p = -1 ↔ L ≤ p := by
  unfold sg
  by_cases e : p < L
  · rw [if_pos e]; have := hT.2.2 p p0 e; omega
  · rw [if_neg e]; omega
theorem sg_lt {b : Int → Int} {L p : Int} (hT : TX b L) (p0 : 0 ≤ p) : (97 ≤ sg b L p ∧ sg b L p ≤ 122) ↔ (p < L ∧ isLt (b p) = true) := by
  unfold sg isLt
  rw [decide_eq_true_iff]
  by_cases e : p < L
  · rw [if_pos e]; have := hT.2.2 p p0 e; omega
  · rw [if_neg e]; omega
theorem sg_dg {b : Int → Int} {L p : Int} (hT : TX b L) (p0 : 0 ≤ p) : (48 ≤ sg b L p ∧ sg b L p ≤ 57) ↔ (p < L ∧ isDg (b p) = true) := by
  unfold sg isDg
  rw [decide_eq_true_iff]
  by_cases e : p < L
  · rw [if_pos e]; have := hT.2.2 p p0 e; omega
  · rw [if_neg e]; omega
/-- the value of digits: five of them at most -/
def dgv (b : Int → Int) (p : Int) : Nat → Int
  | 0 => 0
  | k + 1 => if k < 5 then 10 * dgv b p k + b (p + k) - 48 else dgv b p k
theorem dgv_lt {b : Int → Int} {p : Int} : ∀ k : Nat, (∀ i : Nat, i < k → 48 ≤ b (p + i) ∧ b (p + i) ≤ 57) → 0 ≤ dgv b p k ∧ dgv b p k < 10 ^ (min k 5) := by
  intro k
  induction k with
  | zero => intro _; exact ⟨Int.le_refl 0, by show (0 : Int) < 1; decide⟩
  | succ k ih =>
    intro h
    obtain ⟨a1, a2⟩ := ih (fun i hi => h i (by omega))
    have a3 := h k (by omega)
    show 0 ≤ (if k < 5 then 10 * dgv b p k + b (p + k) - 48 else dgv b p k) ∧ (if k < 5 then 10 * dgv b p k + b (p + k) - 48 else dgv b p k) < 10 ^ (min (k + 1) 5)
    by_cases e : k < 5
    · rw [if_pos e, show min (k + 1) 5 = min k 5 + 1 by omega, Int.pow_succ]
      omega
    · rw [if_neg e, show min (k + 1) 5 = min k 5 by omega]
      exact ⟨a1, a2⟩
def nmv (b : Int → Int) (L p : Int) : Int := dgv b p (edg b L p - p).toNat
theorem nmv_lt {b : Int → Int} {L p : Int} : 0 ≤ nmv b L p ∧ nmv b L p ≤ 99999 := by
  obtain ⟨a1, a2⟩ := dgv_lt (b := b) (p := p) (edg b L p - p).toNat (fun i hi => by
    have := (rnn_in (f := isDg) (b := b) (L := L) (p := p) (i := p + i) (by omega) (by show p + (i : Int) < edg b L p; omega)).2
    unfold isDg at this
    rw [decide_eq_true_iff] at this
    exact this)
  refine ⟨a1, ?_⟩
  have : (10 : Int) ^ (min (edg b L p - p).toNat 5) ≤ 10 ^ 5 := by
    have h1 : (10 : Nat) ^ (min (edg b L p - p).toNat 5) ≤ 10 ^ 5 := Nat.pow_le_pow_right (by decide) (by omega)
    have h2 : ((10 ^ (min (edg b L p - p).toNat 5) : Nat) : Int) ≤ ((10 ^ 5 : Nat) : Int) := by omega
    simpa using h2
  have e5 : (10 : Int) ^ 5 = 100000 := by decide
  show dgv b p (edg b L p - p).toNat ≤ 99999
  omega
-- words
def eqw (b : Int → Int) : Int → List Int → Bool
  | _, [] => true
  | p, c :: cs => decide (b p = c) && eqw b (p + 1) cs
def isw (b : Int → Int) (p e : Int) (w : List Int) : Bool := decide (e = p + w.length) && eqw b p w
def idw (b : Int → Int) (p e : Int) : List (List Int) → Int → Int
  | [], _ => -1
  | w :: ws, n => if isw b p e w = true then n else idw b p e ws (n + 1)
theorem idw_ge {b : Int → Int} {p e : Int} : ∀ (ws : List (List Int)) (n : Int), 0 ≤ n → idw b p e ws n = -1 ∨ (n ≤ idw b p e ws n ∧ idw b p e ws n < n + ws.length) := by
  intro ws
  induction ws with
  | nil => intro n _; exact Or.inl rfl
  | cons w ws ih =>
    intro n n0
    show (if isw b p e w = true then n else idw b p e ws (n + 1)) = -1 ∨ (n ≤ (if isw b p e w = true then n else idw b p e ws (n + 1)) ∧ (if isw b p e w = true then n else idw b p e ws (n + 1)) < n + ((ws.length + 1 : Nat) : Int))
    by_cases g : isw b p e w = true
    · rw [if_pos g]; right; omega
    · rw [if_neg g]
      rcases ih (n + 1) (by omega) with h | h
      · exact Or.inl h
      · right; omega
-- the class's reader
def RD (s : iv_M) (q : Nat) (b : Int → Int) (L p fr ft : Int) : Prop := s q 0 = 1 ∧ s q 1 = L ∧ s q 2 = p ∧ s q 3 = fr ∧ s q 4 = ft ∧ (q ≠ 1) ∧ ∀ i, 0 ≤ i → i < L → s 1 i = b i
theorem sh_1 : ((sh 1).2 : Int) = 400 := by decide
theorem mu_mu {s : iv_M} {a : Nat} {i v w : Int} : mu (mu s a i v) a i w = mu s a i w := by
  funext x y
  unfold mu
  by_cases e : x = a ∧ y = i
  · rw [if_pos e, if_pos e]
  · rw [if_neg e, if_neg e, if_neg e]
theorem RD_2 {s : iv_M} {q : Nat} {b : Int → Int} {L p fr ft p' : Int} (h : RD s q b L p fr ft) : RD (mu s q 2 p') q b L p' fr ft := by
  obtain ⟨h0, h1, h2, h3, h4, h5, h6⟩ := h
  exact ⟨by rw [mu_ne (by omega)]; exact h0, by rw [mu_ne (by omega)]; exact h1, mu_eq, by rw [mu_ne (by omega)]; exact h3, by rw [mu_ne (by omega)]; exact h4, h5, fun i i0 i1 => by rw [mu_ne (by omega)]; exact h6 i i0 i1⟩
theorem RD_3 {s : iv_M} {q : Nat} {b : Int → Int} {L p fr ft p' : Int} (h : RD s q b L p fr ft) : RD (mu s q 3 p') q b L p p' ft := by
  obtain ⟨h0, h1, h2, h3, h4, h5, h6⟩ := h
  exact ⟨by rw [mu_ne (by omega)]; exact h0, by rw [mu_ne (by omega)]; exact h1, by rw [mu_ne (by omega)]; exact h2, mu_eq, by rw [mu_ne (by omega)]; exact h4, h5, fun i i0 i1 => by rw [mu_ne (by omega)]; exact h6 i i0 i1⟩
theorem RD_4 {s : iv_M} {q : Nat} {b : Int → Int} {L p fr ft p' : Int} (h : RD s q b L p fr ft) : RD (mu s q 4 p') q b L p fr p' := by
  obtain ⟨h0, h1, h2, h3, h4, h5, h6⟩ := h
  exact ⟨by rw [mu_ne (by omega)]; exact h0, by rw [mu_ne (by omega)]; exact h1, by rw [mu_ne (by omega)]; exact h2, by rw [mu_ne (by omega)]; exact h3, mu_eq, h5, fun i i0 i1 => by rw [mu_ne (by omega)]; exact h6 i i0 i1⟩
theorem here_ok {N q : Nat} {s : iv_M} {b : Int → Int} {L p fr ft : Int} (hR : RD s q b L p fr ft) (hT : TX b L) (p0 : 0 ≤ p) : FX6_here N s q = some (sg b L p) := by
  obtain ⟨h0, h1, h2, h3, h4, h5, h6⟩ := hR
  unfold FX6_here FX6_here_b28 sg
  rw [h1, h2, h0]
  have t1 : (1 : Int).toNat = 1 := rfl
  rw [t1, sh_1]
  by_cases e : p < L
  · rw [if_neg (by omega), rd_ok p0 (by have := hT.2.1; omega), Option.bind_some, h6 p p0 e, bAn_255, if_pos e]
  · rw [if_pos (by omega), if_neg e]
theorem skip_ok {N q : Nat} {s : iv_M} {b : Int → Int} {L p fr ft : Int} (hN : 1000 ≤ N) (hR : RD s q b L p fr ft) (hT : TX b L) (p0 : 0 ≤ p) (p1 : p ≤ 401) : FX6_skipBlanks N s q = some (sg b L (bl b L p), mu s q 2 (bl b L p)) := by
  have lp : ∀ (m f : Nat) (x : iv_M) (p : Int), (L - p).toNat = m → m < f → RD x q b L p fr ft → 0 ≤ p → p ≤ 401 → FX6_skipBlanks_l0 N q (fun (s_891 : iv_M) => (FX6_skipBlanks_b38 N s_891 q)) f x = some (sg b L (bl b L p), mu x q 2 (bl b L p)) := by
    intro m
    induction m with
    | zero =>
      intro f x p hm hf hR p0 p1
      obtain ⟨f', rfl⟩ : ∃ f', f = f' + 1 := ⟨f - 1, by omega⟩
      have hb : bl b L p = p := rnn_stop (by omega)
      rw [FX6_skipBlanks_l0, hR.2.1, hR.2.2.1, if_pos (by omega), hb]
      unfold FX6_skipBlanks_b38
      rw [here_ok hR hT p0, Option.bind_some]
      have := mu_same (s := x) (a := q) (i := 2)
      rw [hR.2.2.1] at this
      rw [this]
    | succ m ih =>
      intro f x p hm hf hR p0 p1
      obtain ⟨f', rfl⟩ : ∃ f', f = f' + 1 := ⟨f - 1, by omega⟩
      have hL := hT.2.1
      rw [FX6_skipBlanks_l0, hR.2.1, hR.2.2.1, if_neg (by omega), hR.1]
      have t1 : (1 : Int).toNat = 1 := rfl
      rw [t1, sh_1, rd_ok p0 (by omega), Option.bind_some, hR.2.2.2.2.2.2 p p0 (by omega)]
      by_cases e : b p = 32
      · rw [if_pos e, pt_ok, Option.bind_some, w32_id (by omega) (by omega), ih f' _ (p + 1) (by omega) (by omega) (RD_2 hR) (by omega) (by omega), mu_mu, show bl b L p = bl b L (p + 1) from rnn_go (by omega) (by unfold isB; exact decide_eq_true e)]
      · rw [if_neg e]
        have hb : bl b L p = p := rnn_stop (fun z => by have := z.2; unfold isB at this; rw [decide_eq_true_iff] at this; exact e this)
        rw [hb]
        unfold FX6_skipBlanks_b38
        rw [here_ok hR hT p0, Option.bind_some]
        have := mu_same (s := x) (a := q) (i := 2)
        rw [hR.2.2.1] at this
        rw [this]
  unfold FX6_skipBlanks
  exact lp _ N s p rfl (by have := hT.2.1; omega) hR p0 p1
theorem isLetter_ok {N : Nat} {s : iv_M} {x : Int} : FX6_isLetter N s x = some (if 97 ≤ x ∧ x ≤ 122 then 1 else 0) := by
  unfold FX6_isLetter FX6_isLetter_b16 FX6_isLetter_b17
  by_cases e : x < 97
  · rw [if_pos e, if_neg (show ¬ (97 ≤ x ∧ x ≤ 122) by omega)]; rfl
  · by_cases g : 122 < x
    · rw [if_neg e, if_pos g, if_neg (show ¬ (97 ≤ x ∧ x ≤ 122) by omega)]; rfl
    · rw [if_neg e, if_neg g, if_pos (show 97 ≤ x ∧ x ≤ 122 by omega)]; rfl
theorem isDigit_ok {N : Nat} {s : iv_M} {x : Int} : FX6_isDigit N s x = some (if 48 ≤ x ∧ x ≤ 57 then 1 else 0) := by
  unfold FX6_isDigit FX6_isDigit_b16 FX6_isDigit_b17
  by_cases e : x < 48
  · rw [if_pos e, if_neg (show ¬ (48 ≤ x ∧ x ≤ 57) by omega)]; rfl
  · by_cases g : 57 < x
    · rw [if_neg e, if_pos g, if_neg (show ¬ (48 ≤ x ∧ x ≤ 57) by omega)]; rfl
    · rw [if_neg e, if_neg g, if_pos (show 48 ≤ x ∧ x ≤ 57 by omega)]; rfl
/-- what stands after a fault that is told -/
def ffl (ft p k : Int) : Int := if ft = 0 then 1 + 8 * p + k else ft
theorem fail_ok {N q : Nat} {s : iv_M} {x k : Int} (x0 : 0 ≤ x) (x1 : x ≤ 1000) (k0 : 0 ≤ k) (k1 : k ≤ 8) : FX6_fail N s q x k = some (mu s q 4 (ffl (s q 4) x k)) := by
  unfold FX6_fail FX6_fail_b19 ffl
  by_cases e : s q 4 = 0
  · rw [if_pos e, if_pos e, w32_id (x := 8 * x) (by omega) (by omega), w32_id (x := 1 + 8 * x) (by omega) (by omega), w32_id (by omega) (by omega), pt_ok, Option.bind_some]
  · rw [if_neg e, if_neg e, mu_same]
