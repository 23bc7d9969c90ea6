-- READING: what the reference does
def RT (s : iv_M) (b : Int → Int) (L p ft : Int) : Prop := s 113 28 = L ∧ s 113 29 = p ∧ s 113 30 = ft ∧ ∀ i, 0 ≤ i → i < L → s 139 i = b i
def rtM (s : iv_M) (p ft : Int) : iv_M := mu (mu s 113 29 p) 113 30 ft
theorem rtM_o {s : iv_M} {a : Nat} {p ft : Int} (h : a ≠ 113) : rtM s p ft a = s a := by unfold rtM; rw [mu_rw h, mu_rw h]
theorem rtM_i {s : iv_M} {p ft i : Int} (h : i ≠ 29) (h2 : i ≠ 30) : rtM s p ft 113 i = s 113 i := by unfold rtM; rw [mu_ne (by omega), mu_ne (by omega)]
theorem rtM_p {s : iv_M} {p ft : Int} : rtM s p ft 113 29 = p := by unfold rtM; rw [mu_ne (by omega), mu_eq]
theorem rtM_f {s : iv_M} {p ft : Int} : rtM s p ft 113 30 = ft := mu_eq
theorem rtM_rtM {s : iv_M} {p ft p' ft' : Int} : rtM (rtM s p ft) p' ft' = rtM s p' ft' := by
  unfold rtM
  rw [mu_comm (s := mu s 113 29 p) (i := 30) (j := 29) (by omega), mu_mu, mu_mu]
theorem RT_M {s : iv_M} {b : Int → Int} {L p ft p' ft' : Int} (h : RT s b L p ft) : RT (rtM s p' ft') b L p' ft' :=
  ⟨by rw [rtM_i (by omega) (by omega)]; exact h.1, rtM_p, rtM_f, fun i i0 i1 => by rw [rtM_o (by decide)]; exact h.2.2.2 i i0 i1⟩
theorem rtM_same {s : iv_M} {b : Int → Int} {L p ft : Int} (h : RT s b L p ft) : rtM s p ft = s := by
  have e1 : mu s 113 29 p = s := by have := mu_same (s := s) (a := 113) (i := 29); rw [h.2.1] at this; exact this
  have e2 : mu s 113 30 ft = s := by have := mu_same (s := s) (a := 113) (i := 30); rw [h.2.2.1] at this; exact this
  unfold rtM; rw [e1, e2]
theorem rtM_mu {s : iv_M} {b : Int → Int} {L p ft p' : Int} (h : RT s b L p ft) : mu s 113 29 p' = rtM s p' ft := by
  have := mu_same (s := mu s 113 29 p') (a := 113) (i := 30)
  rw [mu_ne (by omega), h.2.2.1] at this
  exact this.symm
theorem rtM_mf {s : iv_M} {b : Int → Int} {L p ft f' : Int} (h : RT s b L p ft) : mu s 113 30 f' = rtM s p f' := by
  have e1 : mu s 113 29 p = s := by have := mu_same (s := s) (a := 113) (i := 29); rw [h.2.1] at this; exact this
  unfold rtM; rw [e1]
theorem sign_ok {N : Nat} {s : iv_M} {b : Int → Int} {L p ft : Int} (hR : RT s b L p ft) (hT : TX b L) (p0 : 0 ≤ p) : FX12_sign N s 113 = some (sg b L p) := by
  obtain ⟨h1, h2, h3, h4⟩ := hR
  unfold FX12_sign FX12_sign_b28 sg
  simp only [Nat.reduceAdd]
  rw [h1, h2]
  by_cases e : p < L
  · rw [if_neg (by omega), rd_ok p0 (by have := hT.2.1; omega), Option.bind_some, h4 p p0 e, bAn_255, if_pos e]
  · rw [if_pos (by omega), if_neg e]
theorem blanks_ok {N : Nat} {s : iv_M} {b : Int → Int} {L p ft : Int} (hN : 1000 ≤ N) (hR : RT s b L p ft) (hT : TX b L) (p0 : 0 ≤ p) (p1 : p ≤ 1000) : FX12_blanks N s 113 = some (rtM s (bl b L p) ft) := by
  have hL := hT.2.1
  have lp : ∀ (m f : Nat) (x : iv_M) (p : Int), (L - p).toNat = m → m < f → RT x b L p ft → 0 ≤ p → p ≤ 1000 → FX12_blanks_l0 N 113 (fun (s_2422 : iv_M) => some s_2422) f x = some (rtM x (bl b L p) ft) := by
    intro m
    induction m with
    | zero =>
      intro f x p hm hf hR p0 p1
      obtain ⟨f', rfl⟩ : ∃ f', f = f' + 1 := ⟨f - 1, by omega⟩
      have hb : bl b L p = p := rnn_stop (by omega)
      rw [FX12_blanks_l0, sign_ok hR hT p0, Option.bind_some, if_neg (by rw [sg_eq hT p0 (by omega) (by omega)]; omega), hb, rtM_same hR]
    | succ m ih =>
      intro f x p hm hf hR p0 p1
      obtain ⟨f', rfl⟩ : ∃ f', f = f' + 1 := ⟨f - 1, by omega⟩
      rw [FX12_blanks_l0, sign_ok hR hT p0, Option.bind_some]
      by_cases e : b p = 32
      · have e2 : sg b L p = 32 := (sg_eq hT p0 (by omega) (by omega)).mpr ⟨by omega, e⟩
        rw [if_pos e2, pt_ok, Option.bind_some, hR.2.1, w32_id (by omega) (by omega), rtM_mu hR, ih f' _ (p + 1) (by omega) (by omega) (RT_M hR) (by omega) (by omega), rtM_rtM, show bl b L p = bl b L (p + 1) from rnn_go (by omega) (by unfold isB; exact decide_eq_true e)]
      · have hb : bl b L p = p := rnn_stop (fun z => by have := z.2; unfold isB at this; rw [decide_eq_true_iff] at this; exact e this)
        rw [if_neg (by rw [sg_eq hT p0 (by omega) (by omega)]; exact fun z => e z.2), hb, rtM_same hR]
  unfold FX12_blanks
  exact lp _ N s p rfl (by omega) hR p0 p1
theorem rDigit_ok {N : Nat} {s : iv_M} {b : Int → Int} {L p ft : Int} (hR : RT s b L p ft) (hT : TX b L) (p0 : 0 ≤ p) : FX12_isDigit N s 113 = some (if p < L ∧ isDg (b p) = true then 1 else 0) := by
  unfold FX12_isDigit
  rw [sign_ok hR hT p0, Option.bind_some, FX12_in_ok, Option.bind_some]
  by_cases e : p < L ∧ isDg (b p) = true
  · rw [if_pos ((sg_dg hT p0).mpr e), if_pos e]; rfl
  · rw [if_neg (fun z => e ((sg_dg hT p0).mp z)), if_neg e]; rfl
theorem fails_ok {N : Nat} {s : iv_M} {b : Int → Int} {L p ft x k : Int} (hR : RT s b L p ft) (x0 : 0 ≤ x) (x1 : x ≤ 1000) (k0 : 0 ≤ k) (k1 : k ≤ 8) : FX12_fails N s 113 k x = some (rtM s p (ffl ft x k)) := by
  unfold FX12_fails FX12_fails_b23 ffl
  rw [hR.2.2.1, pt_ok, Option.bind_some, pt_ok, Option.bind_some]
  by_cases e : ft = 0
  · rw [if_pos e, if_pos e, w32_id (x := 8 * x) (by omega) (by omega), w32_id (x := 1 + 8 * x) (by omega) (by omega), w32_id (by omega) (by omega), rtM_mf hR]
  · rw [if_neg e, if_neg e, rtM_mf hR]
theorem stood_ok {N q1 : Nat} {s : iv_M} {b : Int → Int} {L p ft : Int} {w : List Int} (hN : 1000 ≤ N) (hR : RT s b L p ft) (hT : TX b L) (hS : Str q1 w) (wl : w.length ≤ 100) (p0 : 0 ≤ p) (p1 : p ≤ 1000) : FX12_stood N s 113 q1 = some (if isw b p (el b L p) w = true then 1 else 0) := by
  have hL := hT.2.1
  have l5 : ∀ (m f : Nat) (x : Int), (L - x).toNat = m → m < f → 0 ≤ x → x ≤ 1000 → FX12_stood_l5 N s 113 q1 (fun (x2433_2 : Int) => (FX12_stood_b41 N s 113 q1 x2433_2)) f x = FX12_stood_b41 N s 113 q1 (el b L x) := by
    intro m
    induction m with
    | zero =>
      intro f x hm hf x0 x1
      obtain ⟨f', rfl⟩ : ∃ f', f = f' + 1 := ⟨f - 1, by omega⟩
      have hb : el b L x = x := rnn_stop (by omega)
      rw [FX12_stood_l5, hR.1, if_pos (by omega), hb]
    | succ m ih =>
      intro f x hm hf x0 x1
      obtain ⟨f', rfl⟩ : ∃ f', f = f' + 1 := ⟨f - 1, by omega⟩
      rw [FX12_stood_l5, hR.1, if_neg (by omega)]
      simp only [Nat.reduceAdd]
      rw [rd_ok x0 (by omega), Option.bind_some, Option.bind_some, hR.2.2.2 x x0 (by omega)]
      by_cases e : 97 ≤ b x ∧ b x ≤ 122
      · rw [if_neg (by omega), if_neg (by omega), w32_id (by omega) (by omega), ih f' (x + 1) (by omega) (by omega) (by omega) (by omega), show el b L x = el b L (x + 1) from rnn_go (by omega) (by unfold isLt; exact decide_eq_true e)]
      · have hb : el b L x = x := rnn_stop (fun z => by have := z.2; unfold isLt at this; rw [decide_eq_true_iff] at this; exact e this)
        by_cases g : b x < 97
        · rw [if_pos g, hb]
        · rw [if_neg g, if_pos (by omega), hb]
  have l63f : ∀ (f : Nat) (k : Int), 0 < f → 0 ≤ k → FX12_stood_l63 N s 113 q1 (fun (x2443_3 : Int) => (FX12_stood_b109 N s x2443_3)) f 0 k = some 0 := by
    intro f k hf k0
    obtain ⟨f', rfl⟩ : ∃ f', f = f' + 1 := ⟨f - 1, by omega⟩
    rw [FX12_stood_l63]
    by_cases e : tL q1 ≤ k
    · rw [if_pos e]; rfl
    · rw [if_neg e, if_pos rfl]; rfl
  have l63 : ∀ (v pre : List Int) (f : Nat), w = pre ++ v → v.length < f → p + w.length ≤ L → FX12_stood_l63 N s 113 q1 (fun (x2443_3 : Int) => (FX12_stood_b109 N s x2443_3)) f 1 (pre.length : Int) = some (if eqw b (p + pre.length) v = true then 1 else 0) := by
    intro v
    induction v with
    | nil =>
      intro pre f hw hf hp
      obtain ⟨f', rfl⟩ : ∃ f', f = f' + 1 := ⟨f - 1, by omega⟩
      rw [List.append_nil] at hw
      rw [FX12_stood_l63, hS.1, if_pos (by rw [hw]; omega)]
      rfl
    | cons c cs ih =>
      intro pre f hw hf hp
      obtain ⟨f', rfl⟩ : ∃ f', f = f' + 1 := ⟨f - 1, by omega⟩
      have wl2 : w.length = pre.length + (cs.length + 1) := by rw [hw, List.length_append]; rfl
      have e1 : ((pre ++ [c]).length : Int) = (pre.length : Int) + 1 := by rw [List.length_append]; rfl
      have nx := ih (pre ++ [c]) f' (by rw [hw, List.append_assoc]; rfl) (by simp at hf; omega) hp
      rw [e1, ← Int.add_assoc] at nx
      rw [FX12_stood_l63, hS.1, if_neg (by omega), if_neg (by decide), hR.2.1]
      simp only [Nat.reduceAdd]
      unfold FX12_stood_b102
      rw [w32_id (x := p + (pre.length : Int)) (by omega) (by omega), rd_ok (by omega) (by omega), Option.bind_some, hR.2.2.2 _ (by omega) (by omega), hS.2 _ (by omega), getD_at hw, Option.bind_some, w32_id (by omega) (by omega)]
      show _ = some (if (decide (b (p + pre.length) = c) && eqw b (p + pre.length + 1) cs) = true then (1 : Int) else 0)
      by_cases g : b (p + pre.length) = c
      · rw [if_pos g, nx, decide_eq_true g, Bool.true_and]
      · rw [if_neg g, l63f f' _ (by simp at hf; omega) (by omega), decide_eq_false g, Bool.false_and, if_neg (by decide)]
  unfold FX12_stood
  rw [hR.2.1, l5 _ N p rfl (by omega) p0 p1]
  unfold FX12_stood_b41 FX12_stood_b59
  have ge := rnn_ge (f := isLt) (b := b) (L := L) (p := p)
  have le1 : el b L p ≤ 1000 := by
    by_cases z : p ≤ L
    · have := rnn_le (f := isLt) (b := b) (L := L) (p := p) z; show rnn isLt b L p ≤ 1000; omega
    · have : el b L p = p := rnn_stop (by omega)
      omega
  have ge' : p ≤ el b L p := ge
  rw [hR.2.1, hS.1, w32_id (by omega) (by omega)]
  unfold isw
  by_cases g : el b L p - p = (w.length : Int)
  · rw [if_pos g, decide_eq_true (show el b L p = p + (w.length : Int) by omega), Bool.true_and]
    by_cases w0 : w = []
    · subst w0
      have := l63 [] [] N rfl (by show 0 < N; omega)
      obtain ⟨f', hf'⟩ : ∃ f', N = f' + 1 := ⟨N - 1, by omega⟩
      conv => lhs; arg 6; rw [hf']
      rw [FX12_stood_l63, hS.1, if_pos (by decide)]
      rfl
    · have hpos : 0 < w.length := List.length_pos_iff.mpr w0
      have hLe : p + w.length ≤ L := by
        have := (rnn_in (f := isLt) (b := b) (L := L) (p := p) (i := el b L p - 1) (by omega) (by show el b L p - 1 < el b L p; omega)).1
        omega
      have := l63 w [] N rfl (by omega) hLe
      have z0 : ((([] : List Int).length : Nat) : Int) = 0 := rfl
      rw [z0, Int.add_zero] at this
      exact this
  · rw [if_neg g, l63f N 0 (by omega) (by omega), decide_eq_false (by omega), Bool.false_and, if_neg (by decide)]
/-- digits, where one stands -/
def dft (b : Int → Int) (L p ft : Int) : Int := if edg b L p = p then ffl ft p 0 else if 5 < edg b L p - p then ffl ft p 1 else ft
theorem digits_ok {N : Nat} {s : iv_M} {b : Int → Int} {L p ft : Int} (hN : 1000 ≤ N) (hR : RT s b L p ft) (hT : TX b L) (p0 : 0 ≤ p) (p1 : p ≤ 1000) : FX12_digits N s 113 99999 = some (nmv b L p, rtM s (edg b L p) (dft b L p ft)) := by
  have hL := hT.2.1
  have lp : ∀ (m f : Nat) (x : iv_M) (y : Int), (L - y).toNat = m → m < f → RT x b L y ft → p ≤ y → y ≤ 1000 → y ≤ edg b L p → ∀ kx : iv_M → Int → Option (Int × iv_M), FX12_digits_l25 N 113 99999 p kx f x (dgv b p (y - p).toNat) = kx (rtM x (edg b L y) ft) (dgv b p (edg b L y - p).toNat) := by
    intro m
    induction m with
    | zero =>
      intro f x y hm hf hR y0 y1 ye kx
      obtain ⟨f', rfl⟩ : ∃ f', f = f' + 1 := ⟨f - 1, by omega⟩
      have hb : edg b L y = y := rnn_stop (by omega)
      rw [FX12_digits_l25, rDigit_ok hR hT (by omega), Option.bind_some, if_neg (show ¬ (y < L ∧ isDg (b y) = true) by omega), if_pos rfl, hb, rtM_same hR]
    | succ m ih =>
      intro f x y hm hf hR y0 y1 ye kx
      obtain ⟨f', rfl⟩ : ∃ f', f = f' + 1 := ⟨f - 1, by omega⟩
      rw [FX12_digits_l25, rDigit_ok hR hT (by omega), Option.bind_some]
      by_cases e : y < L ∧ isDg (b y) = true
      · have e8 : 48 ≤ b y ∧ b y ≤ 57 := by have := e.2; unfold isDg at this; rw [decide_eq_true_iff] at this; exact this
        have hg : edg b L y = edg b L (y + 1) := rnn_go e.1 e.2
        have pe1 : y + 1 ≤ edg b L p := by
          have h3 : edg b L y = edg b L p := rnn_mid (f := isDg) (b := b) (L := L) _ p y rfl y0 ye
          have h2 : y + 1 ≤ edg b L (y + 1) := rnn_ge
          omega
        have nx := ih f' (rtM x (y + 1) ft) (y + 1) (by omega) (by omega) (RT_M hR) (by omega) (by omega) pe1 kx
        have kk : (y + 1 - p).toNat = (y - p).toNat + 1 := by omega
        have dd : dgv b p ((y - p).toNat + 1) = if (y - p).toNat < 5 then 10 * dgv b p (y - p).toNat + b (p + ((y - p).toNat : Int)) - 48 else dgv b p (y - p).toNat := rfl
        rw [kk, dd, show p + ((y - p).toNat : Int) = y by omega, rtM_rtM] at nx
        unfold FX12_digits_b58
        rw [if_pos e, if_neg (show ¬ (1 : Int) = 0 by decide), hR.2.1, w32_id (x := y - p) (by omega) (by omega), hg]
        by_cases g : 5 ≤ y - p
        · rw [if_neg (by omega)] at nx
          rw [if_pos g, pt_ok, Option.bind_some, w32_id (by omega) (by omega), rtM_mu hR]
          exact nx
        · rw [if_pos (by omega)] at nx
          obtain ⟨v0, v1⟩ := dgv_lt (b := b) (p := p) (y - p).toNat (fun i hi => by
            have := (rnn_in (f := isDg) (b := b) (L := L) (p := p) (i := p + i) (by omega) (by show p + (i : Int) < edg b L p; omega)).2
            unfold isDg at this
            rw [decide_eq_true_iff] at this
            exact this)
          have v2 : (10 : Int) ^ (min (y - p).toNat 5) ≤ 100000 := by
            have h1 : (10 : Nat) ^ (min (y - p).toNat 5) ≤ 10 ^ 5 := Nat.pow_le_pow_right (by decide) (by omega)
            have h2 : ((10 ^ (min (y - p).toNat 5) : Nat) : Int) ≤ ((10 ^ 5 : Nat) : Int) := by omega
            simpa using h2
          have hs : sg b L y = b y := by unfold sg; rw [if_pos e.1]; omega
          rw [if_neg g, sign_ok hR hT (by omega), Option.bind_some, hs, w32_id (x := 10 * dgv b p (y - p).toNat) (by omega) (by omega), w32_id (x := 10 * dgv b p (y - p).toNat + b y) (by omega) (by omega), w32_id (x := 10 * dgv b p (y - p).toNat + b y - 48) (by omega) (by omega), pt_ok, Option.bind_some, w32_id (by omega) (by omega), rtM_mu hR]
          exact nx
      · have hb : edg b L y = y := rnn_stop e
        rw [if_neg e, if_pos rfl, hb, rtM_same hR]
  unfold FX12_digits
  rw [rDigit_ok hR hT p0, Option.bind_some]
  unfold dft
  by_cases e : p < L ∧ isDg (b p) = true
  · have hne : ¬ edg b L p = p := by
      have hg : edg b L p = edg b L (p + 1) := rnn_go e.1 e.2
      have h2 : p + 1 ≤ edg b L (p + 1) := rnn_ge
      omega
    have ge : p ≤ edg b L p := rnn_ge
    have le : edg b L p ≤ L := rnn_le (by omega)
    have d0 : dgv b p (p - p).toNat = 0 := by rw [show (p - p).toNat = 0 by omega]; rfl
    have := lp _ N s p rfl (by omega) hR (Int.le_refl _) p1 ge
    rw [d0] at this
    rw [if_pos e, if_neg (show ¬ (1 : Int) = 0 by decide), if_neg hne, hR.2.1, this]
    have hv : dgv b p (edg b L p - p).toNat = nmv b L p := rfl
    have hle := (nmv_lt (b := b) (L := L) (p := p)).2
    rw [hv, rtM_p, w32_id (by omega) (by omega)]
    unfold FX12_digits_b87 FX12_digits_b93
    by_cases g : 5 < edg b L p - p
    · rw [if_pos g, if_pos g, fails_ok (RT_M hR) p0 (by omega) (by omega) (by omega), Option.bind_some, rtM_rtM]
    · rw [if_neg g, if_neg g, if_pos hle]
  · have hb : edg b L p = p := rnn_stop e
    rw [if_neg e, if_pos rfl, if_pos hb, hR.2.1, fails_ok hR p0 p1 (by omega) (by omega), Option.bind_some, hb]
    have : nmv b L p = 0 := by unfold nmv; rw [hb, show (p - p).toNat = 0 by omega]; rfl
    rw [this]
theorem ffl_ne {p k : Int} (p0 : 0 ≤ p) (k0 : 0 ≤ k) : ffl 0 p k ≠ 0 := by unfold ffl; rw [if_pos rfl]; omega
theorem amount_ok {N : Nat} {s : iv_M} {b : Int → Int} {L p lo hi : Int} (hN : 1000 ≤ N) (hR : RT s b L p 0) (hT : TX b L) (p0 : 0 ≤ p) (p1 : p ≤ 401) : FX12_amount N s 113 lo hi = some (nmv b L (bl b L p), rtM s (edg b L (bl b L p)) (nft b L (bl b L p) lo hi 0)) := by
  have hL := hT.2.1
  obtain ⟨p', hp'⟩ : ∃ p', p' = bl b L p := ⟨_, rfl⟩
  have q0 : p ≤ p' := by rw [hp']; exact rnn_ge
  have q1 : p' ≤ 401 := by
    rw [hp']
    by_cases e : p ≤ L
    · have := rnn_le (f := isB) (b := b) (L := L) (p := p) e; show rnn isB b L p ≤ 401; omega
    · have : bl b L p = p := rnn_stop (by omega)
      omega
  unfold FX12_amount FX12_amount_b27 FX12_amount_b55
  rw [blanks_ok hN hR hT p0 (by omega), Option.bind_some, ← hp', rtM_f, if_pos rfl, rtM_p, digits_ok hN (RT_M hR) hT (by omega) (by omega), Option.bind_some]
  dsimp only
  rw [rtM_rtM, rtM_f]
  unfold dft nft
  by_cases z1 : edg b L p' = p'
  · rw [if_pos z1, if_pos z1, if_neg (ffl_ne (by omega) (by omega))]
  rw [if_neg z1, if_neg z1]
  by_cases z2 : 5 < edg b L p' - p'
  · rw [if_pos z2, if_pos (Or.inl z2), if_neg (ffl_ne (by omega) (by omega))]
  rw [if_neg z2, if_pos rfl, FX12_in_ok, Option.bind_some]
  by_cases z3 : lo ≤ nmv b L p' ∧ nmv b L p' ≤ hi
  · rw [if_pos z3, if_neg (by decide), if_neg (by omega)]
  · rw [if_neg z3, if_pos rfl, fails_ok (RT_M hR) (by omega) (by omega) (by omega) (by omega), Option.bind_some, rtM_rtM, if_pos (by omega)]
/-- after a fault an amount is nothing -/
theorem amount_bad {N : Nat} {s : iv_M} {b : Int → Int} {L p ft lo hi : Int} (hN : 1000 ≤ N) (hf : ft ≠ 0) (hR : RT s b L p ft) (hT : TX b L) (p0 : 0 ≤ p) (p1 : p ≤ 1000) : FX12_amount N s 113 lo hi = some (0, rtM s (bl b L p) ft) := by
  unfold FX12_amount FX12_amount_b27 FX12_amount_b55
  rw [blanks_ok hN hR hT p0 p1, Option.bind_some, rtM_f, if_neg hf, if_neg hf]
theorem goesOn_ok {N : Nat} {s : iv_M} {b : Int → Int} {L p ft : Int} (hN : 1000 ≤ N) (hR : RT s b L p ft) (hT : TX b L) (p0 : 0 ≤ p) (p1 : p ≤ 1000) : FX12_goesOn N s 113 = some (if ft = 0 ∧ bl b L p < L ∧ b (bl b L p) = 59 then 1 else 0, rtM s (bl b L p + 1) (if ft = 0 ∧ bl b L p < L ∧ b (bl b L p) ≠ 59 then ffl 0 (bl b L p) 0 else ft)) := by
  have hL := hT.2.1
  obtain ⟨p', hp'⟩ : ∃ p', p' = bl b L p := ⟨_, rfl⟩
  have q0 : p ≤ p' := by rw [hp']; exact rnn_ge
  have q1 : p' ≤ 1000 := by
    rw [hp']
    by_cases e : p ≤ L
    · have := rnn_le (f := isB) (b := b) (L := L) (p := p) e; show rnn isB b L p ≤ 1000; omega
    · have : bl b L p = p := rnn_stop (by omega)
      omega
  have hR1 := RT_M (p' := p') (ft' := ft) hR
  unfold FX12_goesOn FX12_goesOn_b40 FX12_goesOn_b62 FX12_goesOn_b63
  rw [blanks_ok hN hR hT p0 p1, Option.bind_some, ← hp', rtM_f, hR1.1, rtM_p]
  by_cases f0 : ft = 0
  · rw [if_pos f0, if_pos f0]
    by_cases e : p' < L
    · rw [if_neg (by omega), sign_ok hR1 hT (by omega), Option.bind_some]
      by_cases g : b p' = 59
      · have gs : sg b L p' = 59 := (sg_eq hT (by omega) (by omega) (by omega)).mpr ⟨e, g⟩
        rw [if_pos gs, if_neg (by omega), pt_ok, Option.bind_some, w32_id (by omega) (by omega), rtM_mu hR1, rtM_rtM, if_pos (Or.inr rfl), if_pos ⟨f0, e, g⟩, if_neg (by rintro ⟨_, _, z⟩; exact z g)]
      · have gs : ¬ sg b L p' = 59 := fun z => g ((sg_eq hT (by omega) (by omega) (by omega)).mp z).2
        have hR2 := RT_M (p' := p') (ft' := ffl ft p' 0) hR
        rw [if_neg gs, fails_ok hR1 (by omega) q1 (by omega) (by omega), Option.bind_some, rtM_rtM, rtM_f, if_neg (by rw [f0]; exact ffl_ne (by omega) (by omega)), rtM_p, pt_ok, Option.bind_some, w32_id (by omega) (by omega), rtM_mu hR2, rtM_rtM, if_pos (Or.inl rfl), if_neg (by rintro ⟨_, _, z⟩; exact g z), if_pos ⟨f0, e, g⟩, f0]
    · rw [if_pos (by omega), if_pos (by omega), pt_ok, Option.bind_some, w32_id (by omega) (by omega), rtM_mu hR1, rtM_rtM, if_pos (Or.inl rfl), if_neg (by rintro ⟨_, z, _⟩; exact e z), if_neg (by rintro ⟨_, z, _⟩; exact e z)]
  · rw [if_neg f0, if_neg f0, pt_ok, Option.bind_some, w32_id (by omega) (by omega), rtM_mu hR1, rtM_rtM, if_pos (Or.inl rfl), if_neg (fun z => f0 z.1), if_neg (fun z => f0 z.1)]
