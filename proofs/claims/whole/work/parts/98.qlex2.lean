-- READING: numbers and words, by the class
theorem mu_comm {s : iv_M} {a : Nat} {i j v w : Int} (h : i ≠ j) : mu (mu s a i v) a j w = mu (mu s a j w) a i v := by
  funext x y
  unfold mu
  by_cases e : x = a ∧ y = j
  · rw [if_pos e, if_neg (by omega), if_pos e]
  · rw [if_neg e]
    by_cases g : x = a ∧ y = i
    · rw [if_pos g, if_pos g]
    · rw [if_neg g, if_neg g, if_neg e]
def rdM (s : iv_M) (q : Nat) (pl fr ft : Int) : iv_M := mu (mu (mu s q 2 pl) q 3 fr) q 4 ft
theorem rdM_o {s : iv_M} {q a : Nat} {pl fr ft : Int} (h : a ≠ q) : rdM s q pl fr ft a = s a := by unfold rdM; rw [mu_rw h, mu_rw h, mu_rw h]
theorem rdM_i {s : iv_M} {q : Nat} {pl fr ft i : Int} (h2 : i ≠ 2) (h3 : i ≠ 3) (h4 : i ≠ 4) : rdM s q pl fr ft q i = s q i := by unfold rdM; rw [mu_ne (by omega), mu_ne (by omega), mu_ne (by omega)]
theorem rdM_RD {s : iv_M} {q : Nat} {b : Int → Int} {L p fr ft pl fr' ft' : Int} (h : RD s q b L p fr ft) : RD (rdM s q pl fr' ft') q b L pl fr' ft' := RD_4 (RD_3 (RD_2 h))
theorem rdM_rdM {s : iv_M} {q : Nat} {a b c d e f : Int} : rdM (rdM s q a b c) q d e f = rdM s q d e f := by
  funext x y
  unfold rdM mu
  by_cases h4 : x = q ∧ y = 4
  · simp only [if_pos h4]
  by_cases h3 : x = q ∧ y = 3
  · simp only [if_neg h4, if_pos h3]
  by_cases h2 : x = q ∧ y = 2
  · simp only [if_neg h4, if_neg h3, if_pos h2]
  simp only [if_neg h4, if_neg h3, if_neg h2]
def nft (b : Int → Int) (L p lo hi ft : Int) : Int := if edg b L p = p then ffl ft p 0 else if 5 < edg b L p - p ∨ nmv b L p < lo ∨ hi < nmv b L p then ffl ft p 1 else ft
theorem num_loop {N q : Nat} {b : Int → Int} {L fr ft lo hi : Int} {kx : iv_M → Int → Option (Int × iv_M)} (hT : TX b L) (f0 : 0 ≤ fr) : ∀ (m f : Nat) (x : iv_M) (p : Int), (L - p).toNat = m → m < f → RD x q b L p fr ft → fr ≤ p → p ≤ 401 → p ≤ edg b L fr → FX6_readNumber_l15 N q lo hi kx f x (dgv b fr (p - fr).toNat) = kx (mu x q 2 (edg b L p)) (dgv b fr (edg b L p - fr).toNat) := by
  intro m
  have hL := hT.2.1
  induction m with
  | zero =>
    intro f x p hm hf hR p0 p1 pe
    obtain ⟨f', rfl⟩ : ∃ f', f = f' + 1 := ⟨f - 1, by omega⟩
    have hb : edg b L p = p := rnn_stop (by omega)
    have := mu_same (s := x) (a := q) (i := 2)
    rw [hR.2.2.1] at this
    rw [FX6_readNumber_l15, hR.2.1, hR.2.2.1, if_pos (by omega), hb, this]
  | succ m ih =>
    intro f x p hm hf hR p0 p1 pe
    obtain ⟨f', rfl⟩ : ∃ f', f = f' + 1 := ⟨f - 1, by omega⟩
    rw [FX6_readNumber_l15, hR.2.1, hR.2.2.1, if_neg (by omega), hR.1]
    have t1 : (1 : Int).toNat = 1 := rfl
    rw [t1, sh_1, rd_ok (by omega) (by omega), Option.bind_some, hR.2.2.2.2.2.2 p (by omega) (by omega), isDigit_ok, Option.bind_some, hR.2.2.2.1]
    by_cases e : 48 ≤ b p ∧ b p ≤ 57
    · have hg : edg b L p = edg b L (p + 1) := rnn_go (by omega) (by unfold isDg; exact decide_eq_true e)
      have pe1 : p + 1 ≤ edg b L fr := by
        have := rnn_mid (f := isDg) (b := b) (L := L) _ fr p rfl p0 pe
        have h2 : p + 1 ≤ edg b L (p + 1) := rnn_ge
        rw [← hg] at h2
        have h3 : edg b L p = edg b L fr := this
        omega
      have nx := ih f' (mu x q 2 (p + 1)) (p + 1) (by omega) (by omega) (RD_2 hR) (by omega) (by omega) pe1
      have kk : (p + 1 - fr).toNat = (p - fr).toNat + 1 := by omega
      have dd : dgv b fr ((p - fr).toNat + 1) = if (p - fr).toNat < 5 then 10 * dgv b fr (p - fr).toNat + b (fr + ((p - fr).toNat : Int)) - 48 else dgv b fr (p - fr).toNat := rfl
      rw [kk, dd, show fr + ((p - fr).toNat : Int) = p by omega, mu_mu] at nx
      unfold FX6_readNumber_b75
      rw [if_pos e, if_neg (by decide), w32_id (x := p - fr) (by omega) (by omega), hR.2.2.1, hg]
      by_cases g : 5 ≤ p - fr
      · rw [if_neg (by omega)] at nx
        rw [if_pos g, pt_ok, Option.bind_some, w32_id (by omega) (by omega)]
        exact nx
      · rw [if_pos (by omega)] at nx
        obtain ⟨v0, v1⟩ := dgv_lt (b := b) (p := fr) (p - fr).toNat (fun i hi => by
          have := (rnn_in (f := isDg) (b := b) (L := L) (p := fr) (i := fr + i) (by omega) (by show fr + (i : Int) < edg b L fr; omega)).2
          unfold isDg at this
          rw [decide_eq_true_iff] at this
          exact this)
        have v2 : (10 : Int) ^ (min (p - fr).toNat 5) ≤ 100000 := by
          have h1 : (10 : Nat) ^ (min (p - fr).toNat 5) ≤ 10 ^ 5 := Nat.pow_le_pow_right (by decide) (by omega)
          have h2 : ((10 ^ (min (p - fr).toNat 5) : Nat) : Int) ≤ ((10 ^ 5 : Nat) : Int) := by omega
          simpa using h2
        have hb8 := hT.2.2 p (by omega) (by omega)
        rw [if_neg g, Option.bind_some, w32_id (x := 10 * dgv b fr (p - fr).toNat) (by omega) (by omega), w32_id (x := 10 * dgv b fr (p - fr).toNat + b p) (by omega) (by omega), w32_id (x := 10 * dgv b fr (p - fr).toNat + b p - 48) (by omega) (by omega), pt_ok, Option.bind_some, w32_id (by omega) (by omega)]
        exact nx
    · have hb : edg b L p = p := rnn_stop (fun z => by have := z.2; unfold isDg at this; rw [decide_eq_true_iff] at this; exact e this)
      have := mu_same (s := x) (a := q) (i := 2)
      rw [hR.2.2.1] at this
      rw [if_neg e, if_pos rfl, hb, this]
theorem readNumber_ok {N q : Nat} {s : iv_M} {b : Int → Int} {L p fr ft lo hi : Int} (hN : 1000 ≤ N) (hR : RD s q b L p fr ft) (hT : TX b L) (p0 : 0 ≤ p) (p1 : p ≤ 401) : FX6_readNumber N s q lo hi = some (nmv b L (bl b L p), rdM s q (edg b L (bl b L p)) (bl b L p) (nft b L (bl b L p) lo hi ft)) := by
  have hL := hT.2.1
  obtain ⟨p', hp'⟩ : ∃ p', p' = bl b L p := ⟨_, rfl⟩
  have q0 : p ≤ p' := by rw [hp']; exact rnn_ge
  have q1 : p' ≤ 401 := by
    rw [hp']
    by_cases e : p ≤ L
    · have := rnn_le (f := isB) (b := b) (L := L) (p := p) e; show rnn isB b L p ≤ 401; omega
    · have : bl b L p = p := rnn_stop (by omega)
      omega
  have lp := num_loop (N := N) (q := q) (b := b) (L := L) (fr := p') (ft := ft) (lo := lo) (hi := hi) (kx := fun (s_971 : iv_M) (x972_3 : Int) => (FX6_readNumber_b89 N s_971 q lo hi x972_3)) hT (by omega) _ N (mu (mu s q 2 p') q 3 p') p' rfl (by omega) (RD_3 (RD_2 hR)) (Int.le_refl _) q1 rnn_ge
  unfold FX6_readNumber
  rw [skip_ok hN hR hT p0 p1, Option.bind_some, ← hp']
  dsimp only
  rw [pt_ok, Option.bind_some, mu_eq]
  have d0 : dgv b p' (p' - p').toNat = 0 := by rw [show (p' - p').toNat = 0 by omega]; rfl
  rw [d0] at lp
  refine lp.trans ?_
  have e1 : mu (mu (mu s q 2 p') q 3 p') q 2 (edg b L p') = mu (mu s q 2 (edg b L p')) q 3 p' := by rw [mu_comm (by omega), mu_mu]
  rw [e1]
  obtain ⟨e, he⟩ : ∃ e, e = edg b L p' := ⟨_, rfl⟩
  have g0 : p' ≤ e := by rw [he]; exact rnn_ge
  have g1 : e ≤ 401 := by
    rw [he]
    by_cases z : p' ≤ L
    · have := rnn_le (f := isDg) (b := b) (L := L) (p := p') z; show rnn isDg b L p' ≤ 401; omega
    · have : edg b L p' = p' := rnn_stop (by omega)
      omega
  have hv : dgv b p' (edg b L p' - p').toNat = nmv b L p' := rfl
  rw [hv, ← he]
  have f2 : mu (mu s q 2 e) q 3 p' q 2 = e := by rw [mu_ne (by omega), mu_eq]
  have f3 : mu (mu s q 2 e) q 3 p' q 3 = p' := mu_eq
  have f4 : mu (mu s q 2 e) q 3 p' q 4 = ft := by rw [mu_ne (by omega), mu_ne (by omega)]; exact hR.2.2.2.2.1
  unfold FX6_readNumber_b89 FX6_readNumber_b135 FX6_readNumber_b144
  rw [f2, f3]
  unfold nft
  rw [← he]
  have stay : mu (mu s q 2 e) q 3 p' = rdM s q e p' ft := by
    unfold rdM
    have := mu_same (s := mu (mu s q 2 e) q 3 p') (a := q) (i := 4)
    rw [f4] at this
    exact this.symm
  by_cases z1 : e = p'
  · rw [if_pos z1, if_pos z1, fail_ok (by omega) (by omega) (by omega) (by omega), Option.bind_some, f4, z1]; rfl
  rw [if_neg z1, if_neg z1, w32_id (by omega) (by omega)]
  have bad : (FX6_fail N (mu (mu s q 2 e) q 3 p') q p' 1).bind (fun s_1001 => some (nmv b L p', s_1001)) = some (nmv b L p', rdM s q e p' (ffl ft p' 1)) := by
    rw [fail_ok (by omega) (by omega) (by omega) (by omega), Option.bind_some, f4]; rfl
  by_cases z2 : 5 < e - p'
  · rw [if_pos z2, if_pos (Or.inl z2)]; exact bad
  rw [if_neg z2]
  by_cases z3 : nmv b L p' < lo
  · rw [if_pos z3, if_pos (Or.inr (Or.inl z3))]; exact bad
  rw [if_neg z3]
  by_cases z4 : nmv b L p' ≤ hi
  · rw [if_pos z4, if_neg (by omega), stay]
  · rw [if_neg z4, if_pos (Or.inr (Or.inr (by omega)))]; exact bad
-- words
def jnw : List (List Int) → List Int
  | [] => []
  | w :: ws => w ++ 44 :: jnw ws
def Str (q1 : Nat) (t : List Int) : Prop := tL q1 = t.length ∧ ∀ i : Nat, i < t.length → tA q1 i = some (t.getD i 0)
theorem str_aux {l : List Int32} {i : Nat} (hi : i < l.length) : (l.getD i 0).toInt = (l.map (fun c => c.toInt)).getD i 0 := by
  rw [List.getD_eq_getElem?_getD, List.getD_eq_getElem?_getD, List.getElem?_map, List.getElem?_eq_getElem hi]
  rfl
theorem str_ok {q1 : Nat} {t : List Int} (h : (iv_bt (q1 - (iv_big + 10))).map (fun c => c.toInt) = t) : Str q1 t := by
  have hl : tL q1 = t.length := by unfold tL; rw [← h, List.length_map]
  refine ⟨hl, fun i hi => ?_⟩
  have hi2 : i < (iv_bt (q1 - (iv_big + 10))).length := by rw [← h, List.length_map] at hi; exact hi
  unfold tA
  rw [hl, if_pos (by omega), Int.toNat_natCast, str_aux hi2, h]
theorem getD_mid {a : List Int} {c : Int} {r : List Int} : (a ++ c :: r).getD a.length 0 = c := by
  rw [List.getD_eq_getElem?_getD, List.getElem?_append_right (Nat.le_refl _)]; simp
def wmt (b : Int → Int) (p : Int) : Int → List Int → Bool
  | _, [] => true
  | a, c :: cs => (decide (a < p) && decide (b a = c)) && wmt b p (a + 1) cs
theorem wmt_eq {b : Int → Int} {p : Int} : ∀ (w : List Int) (a : Int), a + w.length ≤ p → wmt b p a w = eqw b a w := by
  intro w
  induction w with
  | nil => intro a _; rfl
  | cons c cs ih =>
    intro a h
    have hl : ((c :: cs).length : Int) = (cs.length : Int) + 1 := by simp
    show ((decide (a < p) && decide (b a = c)) && wmt b p (a + 1) cs) = (decide (b a = c) && eqw b (a + 1) cs)
    rw [decide_eq_true (show a < p by omega), Bool.true_and, ih (a + 1) (by omega)]
def bit (x : Bool) : Int := if x = true then 1 else 0
theorem getD_at {a : List Int} {c : Int} {r : List Int} {t : List Int} (h : t = a ++ c :: r) : t.getD a.length 0 = c := by rw [h]; exact getD_mid
/-- the letters of one word, against what stands there -/
theorem idx_word {N q q1 : Nat} {s : iv_M} {b : Int → Int} {L p fr ft : Int} {t : List Int} {kx : Unit → Option Int} (hR : RD s q b L p fr ft) (hT : TX b L) (hS : Str q1 t) (tl : t.length ≤ 1000) (p1 : p ≤ L ∨ p ≤ fr) : ∀ (w pre post : List Int) (f : Nat) (x2 a : Int) (x4 : Bool), t = pre ++ (w ++ 44 :: post) → (∀ c, c ∈ w → c ≠ 44) → 0 ≤ a → fr ≤ a → a + w.length ≤ 2000 → FX6_indexOfWord_l13 N s q q1 kx (f + w.length) x2 a (bit x4) (pre.length : Int) = FX6_indexOfWord_l13 N s q q1 kx f x2 (a + w.length) (bit (x4 && wmt b p a w)) ((pre ++ w).length : Int) := by
  intro w
  have hL := hT.2.1
  induction w with
  | nil =>
    intro pre post f x2 a x4 ht hw a0 af a1
    show FX6_indexOfWord_l13 N s q q1 kx f x2 a (bit x4) (pre.length : Int) = FX6_indexOfWord_l13 N s q q1 kx f x2 (a + ((0 : Nat) : Int)) (bit (x4 && true)) ((pre ++ []).length : Int)
    rw [Bool.and_true, List.append_nil, show a + ((0 : Nat) : Int) = a by omega]
  | cons c cs ih =>
    intro pre post f x2 a x4 ht hw a0 af a1
    have hl : ((c :: cs).length : Int) = (cs.length : Int) + 1 := by simp
    have hc : c ≠ 44 := hw c List.mem_cons_self
    have hlen : pre.length < t.length := by rw [ht, List.length_append]; simp
    have ht2 : t = (pre ++ [c]) ++ (cs ++ 44 :: post) := by rw [ht, List.append_assoc]; rfl
    have nx := ih (pre ++ [c]) post f x2 (a + 1) (x4 && (decide (a < p) && decide (b a = c))) ht2 (fun d hd => hw d (List.mem_cons_of_mem _ hd)) (by omega) (by omega) (by omega)
    have e1 : ((pre ++ [c]).length : Int) = (pre.length : Int) + 1 := by rw [List.length_append]; rfl
    have e2 : (pre ++ [c]) ++ cs = pre ++ (c :: cs) := by rw [List.append_assoc]; rfl
    have e3 : wmt b p a (c :: cs) = ((decide (a < p) && decide (b a = c)) && wmt b p (a + 1) cs) := rfl
    rw [e1, e2, show a + 1 + (cs.length : Int) = a + ((c :: cs).length : Int) by omega, Bool.and_assoc, ← e3] at nx
    rw [← nx, show f + (c :: cs).length = (f + cs.length) + 1 by simp; omega, FX6_indexOfWord_l13, hS.1, if_neg (by omega), hS.2 _ hlen, getD_at ht, Option.bind_some, if_neg hc]
    unfold FX6_indexOfWord_b65 FX6_indexOfWord_b66 FX6_indexOfWord_b100
    have t1 : (1 : Int).toNat = 1 := rfl
    rw [hR.2.2.1, hR.1, t1, sh_1, w32_id (x := a + 1) (by omega) (by omega), w32_id (x := (pre.length : Int) + 1) (by omega) (by omega)]
    cases x4 with
    | false => rw [if_pos (show bit false = 0 from rfl)]; rfl
    | true =>
      rw [if_neg (show ¬ bit true = 0 by decide)]
      by_cases g : a < p
      · rw [if_neg (by omega), rd_ok a0 (by omega), Option.bind_some, hR.2.2.2.2.2.2 a a0 (by omega), decide_eq_true g]
        by_cases k : b a = c
        · rw [if_pos k, decide_eq_true k]; rfl
        · rw [if_neg k, decide_eq_false k]; rfl
      · rw [if_pos (by omega), decide_eq_false g]; rfl
theorem idx_all {N q q1 : Nat} {s : iv_M} {b : Int → Int} {L p fr ft : Int} {t : List Int} (hR : RD s q b L p fr ft) (hT : TX b L) (hS : Str q1 t) (tl : t.length ≤ 1000) (p1 : p ≤ L ∨ p ≤ fr) (f0 : 0 ≤ fr) (f1 : fr ≤ 401) : ∀ (ws : List (List Int)) (pre : List Int) (f : Nat) (x2 : Int), t = pre ++ jnw ws → (∀ w, w ∈ ws → ∀ c, c ∈ w → c ≠ 44) → 0 ≤ x2 → x2 + ws.length ≤ 1000 → (jnw ws).length < f → FX6_indexOfWord_l13 N s q q1 (fun (_ : Unit) => (some (-1))) f x2 fr 1 (pre.length : Int) = some (idw b fr p ws x2) := by
  intro ws
  induction ws with
  | nil =>
    intro pre f x2 ht hw x0 x1 hf
    obtain ⟨f', rfl⟩ : ∃ f', f = f' + 1 := ⟨f - 1, by omega⟩
    rw [FX6_indexOfWord_l13, hS.1, if_pos (by rw [ht]; show ((pre ++ []).length : Int) ≤ _; rw [List.append_nil]; omega)]
    rfl
  | cons w ws ih =>
    intro pre f x2 ht hw x0 x1 hf
    have jl : (jnw (w :: ws)).length = w.length + ((jnw ws).length + 1) := by show (w ++ 44 :: jnw ws).length = _; rw [List.length_append]; rfl
    have tlen : t.length = pre.length + (w.length + ((jnw ws).length + 1)) := by rw [ht, List.length_append, jl]
    obtain ⟨f', rfl⟩ : ∃ f', f = (f' + 1) + w.length := ⟨f - w.length - 1, by omega⟩
    have st := idx_word (N := N) (kx := fun (_ : Unit) => (some (-1))) hR hT hS tl p1 w pre (jnw ws) (f' + 1) x2 fr true ht (hw w List.mem_cons_self) f0 (Int.le_refl _) (by omega)
    rw [Bool.true_and] at st
    refine Eq.trans st ?_
    have ht2 : t = (pre ++ w) ++ 44 :: jnw ws := by rw [ht, List.append_assoc]; rfl
    have hlen : (pre ++ w).length < t.length := by rw [List.length_append]; omega
    have nx := ih (pre ++ w ++ [44]) f' (x2 + 1) (by rw [ht2, List.append_assoc (pre ++ w)]; rfl) (fun v hv => hw v (List.mem_cons_of_mem _ hv)) (by omega) (by simp at x1; omega) (by omega)
    have e1 : ((pre ++ w ++ [44]).length : Int) = ((pre ++ w).length : Int) + 1 := by rw [List.length_append]; rfl
    rw [e1] at nx
    have ei : idw b fr p (w :: ws) x2 = if isw b fr p w = true then x2 else idw b fr p ws (x2 + 1) := rfl
    rw [FX6_indexOfWord_l13, hS.1, if_neg (by omega), hS.2 _ hlen, getD_at ht2, Option.bind_some, if_pos rfl, hR.2.2.1, ei]
    unfold FX6_indexOfWord_b89 FX6_indexOfWord_b100
    have plen : ((pre ++ w).length : Int) = (pre.length : Int) + w.length := by rw [List.length_append]; omega
    rw [hR.2.2.2.1, w32_id (x := x2 + 1) (by simp at x1; omega) (by simp at x1; omega), w32_id (x := ((pre ++ w).length : Int) + 1) (by omega) (by omega), nx]
    by_cases g : isw b fr p w = true
    · have hg := g
      unfold isw at hg
      rw [Bool.and_eq_true, decide_eq_true_iff] at hg
      rw [wmt_eq w fr (by omega), hg.2, if_neg (show ¬ bit true = 0 by decide), if_pos (by omega), if_pos g]
    · rw [if_neg g]
      by_cases k : wmt b p fr w = true
      · rw [k, if_neg (show ¬ bit true = 0 by decide)]
        by_cases u : fr + (w.length : Int) = p
        · exfalso
          apply g
          unfold isw
          rw [← wmt_eq (p := p) w fr (by omega), k, decide_eq_true (show p = fr + (w.length : Int) by omega)]
          rfl
        · rw [if_neg u]
      · have k' : wmt b p fr w = false := by cases h : wmt b p fr w; rfl; exact absurd h k
        rw [k', if_pos (show bit false = 0 from rfl)]
theorem let_loop {N q q1 : Nat} {b : Int → Int} {L fr ft : Int} {kx : iv_M → Option (Int × iv_M)} (hT : TX b L) : ∀ (m f : Nat) (x : iv_M) (p : Int), (L - p).toNat = m → m < f → RD x q b L p fr ft → 0 ≤ p → p ≤ 401 → FX6_readWord_l13 N q q1 kx f x = kx (mu x q 2 (el b L p)) := by
  intro m
  have hL := hT.2.1
  induction m with
  | zero =>
    intro f x p hm hf hR p0 p1
    obtain ⟨f', rfl⟩ : ∃ f', f = f' + 1 := ⟨f - 1, by omega⟩
    have hb : el b L p = p := rnn_stop (by omega)
    have := mu_same (s := x) (a := q) (i := 2)
    rw [hR.2.2.1] at this
    rw [FX6_readWord_l13, hR.2.1, hR.2.2.1, if_pos (by omega), hb, this]
  | succ m ih =>
    intro f x p hm hf hR p0 p1
    obtain ⟨f', rfl⟩ : ∃ f', f = f' + 1 := ⟨f - 1, by omega⟩
    rw [FX6_readWord_l13, hR.2.1, hR.2.2.1, if_neg (by omega), hR.1]
    have t1 : (1 : Int).toNat = 1 := rfl
    rw [t1, sh_1, rd_ok p0 (by omega), Option.bind_some, hR.2.2.2.2.2.2 p p0 (by omega), isLetter_ok, Option.bind_some]
    by_cases e : 97 ≤ b p ∧ b p ≤ 122
    · rw [if_pos e, if_neg (by decide), pt_ok, Option.bind_some, w32_id (by omega) (by omega), ih f' _ (p + 1) (by omega) (by omega) (RD_2 hR) (by omega) (by omega), mu_mu, show el b L p = el b L (p + 1) from rnn_go (by omega) (by unfold isLt; exact decide_eq_true e)]
    · have hb : el b L p = p := rnn_stop (fun z => by have := z.2; unfold isLt at this; rw [decide_eq_true_iff] at this; exact e this)
      have := mu_same (s := x) (a := q) (i := 2)
      rw [hR.2.2.1] at this
      rw [if_neg e, if_pos rfl, hb, this]
def wft (b : Int → Int) (p e : Int) (ws : List (List Int)) (ft : Int) : Int := if idw b p e ws 0 = -1 then ffl ft p 0 else ft
theorem readWord_ok {N q q1 : Nat} {s : iv_M} {b : Int → Int} {L p fr ft : Int} {ws : List (List Int)} (hN : 1000 ≤ N) (hR : RD s q b L p fr ft) (hT : TX b L) (hS : Str q1 (jnw ws)) (tl : (jnw ws).length ≤ 900) (wl : ws.length ≤ 900) (hw : ∀ w, w ∈ ws → ∀ c, c ∈ w → c ≠ 44) (p0 : 0 ≤ p) (p1 : p ≤ 401) : FX6_readWord N s q q1 = some (idw b (bl b L p) (el b L (bl b L p)) ws 0, rdM s q (el b L (bl b L p)) (bl b L p) (wft b (bl b L p) (el b L (bl b L p)) ws ft)) := by
  have hL := hT.2.1
  obtain ⟨p', hp'⟩ : ∃ p', p' = bl b L p := ⟨_, rfl⟩
  have q0 : p ≤ p' := by rw [hp']; exact rnn_ge
  have q1' : p' ≤ 401 := by
    rw [hp']
    by_cases e : p ≤ L
    · have := rnn_le (f := isB) (b := b) (L := L) (p := p) e; show rnn isB b L p ≤ 401; omega
    · have : bl b L p = p := rnn_stop (by omega)
      omega
  unfold FX6_readWord
  rw [skip_ok hN hR hT p0 p1, Option.bind_some, ← hp']
  dsimp only
  rw [pt_ok, Option.bind_some, mu_eq]
  have hR1 : RD (mu (mu s q 2 p') q 3 p') q b L p' p' ft := RD_3 (RD_2 hR)
  rw [let_loop (kx := fun (s_930 : iv_M) => (FX6_readWord_b52 N s_930 q q1)) hT _ N _ p' rfl (by omega) hR1 (by omega) q1']
  have e1 : mu (mu (mu s q 2 p') q 3 p') q 2 (el b L p') = mu (mu s q 2 (el b L p')) q 3 p' := by rw [mu_comm (by omega), mu_mu]
  rw [e1]
  obtain ⟨e, he⟩ : ∃ e, e = el b L p' := ⟨_, rfl⟩
  rw [← he]
  have hR2 : RD (mu (mu s q 2 e) q 3 p') q b L e p' ft := RD_3 (RD_2 hR)
  have pe : e ≤ L ∨ e ≤ p' := by
    rw [he]
    by_cases z : p' ≤ L
    · left; exact rnn_le z
    · right; have : el b L p' = p' := rnn_stop (by omega)
      omega
  unfold FX6_readWord_b52 FX6_readWord_b72 FX6_indexOfWord
  rw [hR2.2.2.2.1, show (0 : Int) = (([] : List Int).length : Int) from rfl]
  have ix := idx_all (N := N) hR2 hT hS (by omega) pe (by omega) (by omega) ws [] N 0 rfl hw (by omega) (by omega) (by omega)
  have z0 : ((([] : List Int).length : Nat) : Int) = 0 := rfl
  rw [z0] at ix ⊢
  rw [ix, Option.bind_some]
  unfold wft
  have f4 : mu (mu s q 2 e) q 3 p' q 4 = ft := hR2.2.2.2.2.1
  by_cases g : idw b p' e ws 0 = -1
  · rw [if_pos g, if_pos g, fail_ok (by omega) (by omega) (by omega) (by omega), Option.bind_some, f4]; rfl
  · rw [if_neg g, if_neg g]
    congr 2
    unfold rdM
    have := mu_same (s := mu (mu s q 2 e) q 3 p') (a := q) (i := 4)
    rw [f4] at this
    exact this.symm
