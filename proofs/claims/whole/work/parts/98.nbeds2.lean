-- BEDS: the class's table over sets of people
def bbt (T q : Nat) : Nat := T / 2 ^ q % 2
def bms (T : Nat) : Nat → Nat → List Nat
  | 0, _ => []
  | d + 1, p => if bbt T p = 1 then p :: bms T d (p + 1) else bms T d (p + 1)
theorem bbt_sub : ∀ (T : Fin 64) (p q : Fin 6), bbt T.val p.val = 1 → bbt (T.val - 2 ^ p.val) q.val = (if q = p then 0 else bbt T.val q.val) ∧ 2 ^ p.val ≤ T.val := by decide +kernel
theorem bbt_add : ∀ (T : Fin 64) (p : Fin 6), bbt T.val p.val = 0 → bbt (T.val + 2 ^ p.val) p.val = 1 := by decide +kernel
theorem bbt_01 (T q : Nat) : bbt T q = 0 ∨ bbt T q = 1 := by unfold bbt; omega
theorem bms_len (T : Nat) : ∀ d p, (bms T d p).length ≤ d := by
  intro d
  induction d with
  | zero => intro p; exact Nat.le_refl 0
  | succ d ih =>
    intro p
    have := ih (p + 1)
    show (if bbt T p = 1 then p :: bms T d (p + 1) else bms T d (p + 1)).length ≤ d + 1
    split
    · show (bms T d (p + 1)).length + 1 ≤ d + 1; omega
    · omega
theorem bms_congr {T T' : Nat} : ∀ d p, (∀ q, p ≤ q → q < p + d → bbt T q = bbt T' q) → bms T d p = bms T' d p := by
  intro d
  induction d with
  | zero => intro p _; rfl
  | succ d ih =>
    intro p h
    show (if bbt T p = 1 then p :: bms T d (p + 1) else bms T d (p + 1)) = (if bbt T' p = 1 then p :: bms T' d (p + 1) else bms T' d (p + 1))
    rw [h p (by omega) (by omega), ih (p + 1) (fun q h1 h2 => h q (by omega) (by omega))]
def bss (f : Nat → Nat) : Nat → Nat → Nat
  | _, 0 => 0
  | p, d + 1 => f p + bss f (p + 1) d
theorem bss_bsm {f : Nat → Nat} : ∀ d p, bsm f (p + d) = bsm f p + bss f p d := by
  intro d
  induction d with
  | zero => intro p; rfl
  | succ d ih =>
    intro p
    have := ih (p + 1)
    rw [show p + 1 + d = p + (d + 1) by omega] at this
    rw [this]
    show bsm f p + f p + bss f (p + 1) d = bsm f p + (f p + bss f (p + 1) d)
    omega
theorem bss_congr {f g : Nat → Nat} : ∀ d p, (∀ q, p ≤ q → q < p + d → f q = g q) → bss f p d = bss g p d := by
  intro d
  induction d with
  | zero => intro p _; rfl
  | succ d ih => intro p h; show f p + bss f (p + 1) d = g p + bss g (p + 1) d; rw [h p (by omega) (by omega), ih (p + 1) (fun q h1 h2 => h q (by omega) (by omega))]
theorem bex_bms {may : Nat → Nat → Bool} {m T : Nat} (hT : T < 64) : ∀ (d p : Nat) (F : List Nat → Nat), p + d ≤ 6 → bex may m (bms T d p) F = bss (fun q => if bbt T q = 1 ∧ may q m = true then F (bms (T - 2 ^ q) d p) else 0) p d := by
  intro d
  induction d with
  | zero => intro p F _; rfl
  | succ d ih =>
    intro p F h
    have hb : ∀ q r, q < 6 → r < 6 → bbt T q = 1 → bbt (T - 2 ^ q) r = if r = q then 0 else bbt T r := fun q r hq hr e => by
      have := (bbt_sub ⟨T, hT⟩ ⟨q, hq⟩ ⟨r, hr⟩ e).1
      rw [this]
      by_cases c : r = q
      · rw [if_pos c, if_pos (by simp [c])]
      · rw [if_neg c, if_neg (by simp [c])]
    show bex may m (if bbt T p = 1 then p :: bms T d (p + 1) else bms T d (p + 1)) F = (if bbt T p = 1 ∧ may p m = true then F (bms (T - 2 ^ p) (d + 1) p) else 0) + bss (fun q => if bbt T q = 1 ∧ may q m = true then F (bms (T - 2 ^ q) (d + 1) p) else 0) (p + 1) d
    by_cases e : bbt T p = 1
    · rw [if_pos e]
      have e1 : bms (T - 2 ^ p) (d + 1) p = bms T d (p + 1) := by
        show (if bbt (T - 2 ^ p) p = 1 then p :: bms (T - 2 ^ p) d (p + 1) else bms (T - 2 ^ p) d (p + 1)) = _
        rw [hb p p (by omega) (by omega) e, if_pos rfl, if_neg (by decide)]
        exact bms_congr d (p + 1) (fun q h1 h2 => by rw [hb p q (by omega) (by omega) e, if_neg (by omega)])
      show (if may p m = true then F (bms T d (p + 1)) else 0) + bex may m (bms T d (p + 1)) (fun S' => F (p :: S')) = _
      rw [ih (p + 1) (fun S' => F (p :: S')) (by omega), e1]
      congr 1
      · by_cases k : may p m = true
        · rw [if_pos k, if_pos ⟨e, k⟩]
        · rw [if_neg k, if_neg (fun z => k z.2)]
      · refine bss_congr d (p + 1) (fun q h1 h2 => ?_)
        show (if bbt T q = 1 ∧ may q m = true then F (p :: bms (T - 2 ^ q) d (p + 1)) else 0) = (if bbt T q = 1 ∧ may q m = true then F (bms (T - 2 ^ q) (d + 1) p) else 0)
        by_cases k : bbt T q = 1 ∧ may q m = true
        · rw [if_pos k, if_pos k]
          have : bms (T - 2 ^ q) (d + 1) p = p :: bms (T - 2 ^ q) d (p + 1) := by
            show (if bbt (T - 2 ^ q) p = 1 then p :: bms (T - 2 ^ q) d (p + 1) else bms (T - 2 ^ q) d (p + 1)) = _
            rw [hb q p (by omega) (by omega) k.1, if_neg (show ¬ p = q by omega), if_pos e]
          rw [this]
        · rw [if_neg k, if_neg k]
    · rw [if_neg e, if_neg (fun z => e z.1), Nat.zero_add, ih (p + 1) F (by omega)]
      refine bss_congr d (p + 1) (fun q h1 h2 => ?_)
      show (if bbt T q = 1 ∧ may q m = true then F (bms (T - 2 ^ q) d (p + 1)) else 0) = (if bbt T q = 1 ∧ may q m = true then F (bms (T - 2 ^ q) (d + 1) p) else 0)
      by_cases k : bbt T q = 1 ∧ may q m = true
      · rw [if_pos k, if_pos k]
        have : bms (T - 2 ^ q) (d + 1) p = bms (T - 2 ^ q) d (p + 1) := by
          show (if bbt (T - 2 ^ q) p = 1 then p :: bms (T - 2 ^ q) d (p + 1) else bms (T - 2 ^ q) d (p + 1)) = _
          rw [hb q p (by omega) (by omega) k.1, if_neg (show ¬ p = q by omega), if_neg e]
        rw [this]
      · rw [if_neg k, if_neg k]
theorem bsm_le {f : Nat → Nat} {c : Nat} : ∀ m, (∀ r, r < m → f r ≤ c) → bsm f m ≤ c * m := by
  intro m
  induction m with
  | zero => intro _; exact Nat.zero_le _
  | succ m ih =>
    intro h
    have h1 := ih (fun r hr => h r (by omega))
    have h2 := h m (by omega)
    show bsm f m + f m ≤ c * (m + 1)
    rw [Nat.mul_add]; omega
theorem bcn_le {may : Nat → Nat → Bool} {m : Nat} (hm : m ≤ 12) : ∀ (S : List Nat) (u : Nat → Bool), bcn may S u m ≤ 12 ^ S.length := by
  intro S
  induction S with
  | nil => intro u; exact Nat.le_refl 1
  | cons p S ih =>
    intro u
    have h : bcn may (p :: S) u m ≤ 12 ^ S.length * m := bsm_le m (fun r _ => by
      show (if bok may u p r = true then bcn may S (bad u r) m else 0) ≤ _
      split
      · exact ih _
      · exact Nat.zero_le _)
    show bcn may (p :: S) u m ≤ 12 ^ (S.length + 1)
    rw [Nat.pow_succ]
    exact Nat.le_trans h (Nat.mul_le_mul_left _ hm)
/-- ways to lay the people of a set into the rooms before m -/
def bwy (may : Nat → Nat → Bool) (P m T : Nat) : Nat := bcn may (bms T P 0) (fun _ => false) m
theorem bwy_le {may : Nat → Nat → Bool} {P m T : Nat} (hm : m ≤ 12) (hP : P ≤ 6) : bwy may P m T ≤ 2985984 := by
  have h1 := bcn_le (may := may) hm (bms T P 0) (fun _ => false)
  have h2 := bms_len T P 0
  have h3 : 12 ^ (bms T P 0).length ≤ 12 ^ 6 := Nat.pow_le_pow_right (by decide) (by omega)
  have h4 : 12 ^ 6 = 2985984 := by decide
  unfold bwy; omega
def btm (may : Nat → Nat → Bool) (P m T q : Nat) : Nat := if bbt T q = 1 ∧ may q m = true then bwy may P m (T - 2 ^ q) else 0
theorem bwy_next {may : Nat → Nat → Bool} {P m T : Nat} (hT : T < 64) (hP : P ≤ 6) : bwy may P (m + 1) T = bwy may P m T + bsm (btm may P m T) P := by
  unfold bwy
  rw [bcn_next _ _ rfl, bex_bms hT P 0 _ (by omega)]
  have := bss_bsm (f := btm may P m T) P 0
  rw [Nat.zero_add] at this
  rw [this]
  show _ + bss (btm may P m T) 0 P = _ + (0 + bss (btm may P m T) 0 P)
  rw [Nat.zero_add]
/-- what has been added when the sets from K on are done, and of the set before them the people before x -/
def bdn (may : Nat → Nat → Bool) (P m K x T q : Nat) : Nat := if K ≤ T - 2 ^ q ∨ (T - 2 ^ q + 1 = K ∧ q < x) then btm may P m T q else 0
def BV (may : Nat → Nat → Bool) (P m K x : Nat) (z : iv_M) : Prop := ∀ T : Nat, T < 2 ^ P → z 111 T = ((bwy may P m T + bsm (bdn may P m K x T) P : Nat) : Int)
theorem bsm_one {f g : Nat → Nat} {x : Nat} : ∀ m, x < m → (∀ q, q < m → q ≠ x → g q = f q) → f x = 0 → bsm g m = bsm f m + g x := by
  intro m
  induction m with
  | zero => intro h; omega
  | succ m ih =>
    intro h h1 h2
    show bsm g m + g m = bsm f m + f m + g x
    by_cases e : x = m
    · subst e
      rw [bsm_congr x (f := g) (g := f) (fun q hq => h1 q (by omega) (by omega)), h2]; omega
    · rw [ih (by omega) (fun q hq => h1 q (by omega)) h2, h1 m (by omega) (fun z => e z.symm)]; omega
theorem btm_bit {may : Nat → Nat → Bool} {P m T q : Nat} (h : btm may P m T q ≠ 0) : bbt T q = 1 ∧ may q m = true := by
  unfold btm at h
  by_cases e : bbt T q = 1 ∧ may q m = true
  · exact e
  · rw [if_neg e] at h; exact absurd rfl h
theorem pow6 {P : Nat} (h : P ≤ 6) : 2 ^ P ≤ 64 := by
  have : 2 ^ P ≤ 2 ^ 6 := Nat.pow_le_pow_right (by decide) h
  have h4 : 2 ^ 6 = 64 := by decide
  omega
theorem bt_top : ∀ (P : Fin 7) (T : Fin 64) (q : Fin 6), q.val < P.val → T.val < 2 ^ P.val → bbt T.val q.val = 0 → T.val + 2 ^ q.val < 2 ^ P.val := by decide +kernel
theorem bor_all : ∀ (T : Fin 64) (q : Fin 6), bbt T.val q.val = 0 → bOr (T.val : Int) (sl32 1 q.val) = ((T.val + 2 ^ q.val : Nat) : Int) := by decide +kernel
theorem bt_int {T q : Nat} (hq : q < 32) : bAn (sr32 (T : Int) (q : Int)) 1 = ((bbt T q : Nat) : Int) := by
  rw [bit_ok (by omega) (by omega), Int.toNat_natCast]
  unfold bbt
  simp
/-- one set of people: the loop over people -/
theorem bed_in {N : Nat} {qh : Nat} {may : Nat → Nat → Bool} {P m n K : Nat} {kx : iv_M → Option (Int × iv_M)} {full : Int} {s0 : iv_M} (hP : P ≤ 6) (hm : m < n) (hn : n ≤ 12) (hK : K < 2 ^ P) (hp : s0 qh 2 = P) (hqh : qh ≠ 111) (hmay : ∀ p r : Nat, p < P → r < n → (bAn (sr32 (s0 110 p) r) 1 = 1 ↔ may p r = true)) : ∀ (d x f : Nat) (z : iv_M), x + d = P → d < f → BV may P m (K + 1) x z → (∀ a, a ≠ 111 → z a = s0 a) → ∃ z', FX4_layPeople_l48 N 102 qh full (m : Int) (K : Int) kx f z (x : Int) = kx z' ∧ BV may P m K 0 z' ∧ ∀ a, a ≠ 111 → z' a = s0 a := by
  have h64 := pow6 hP
  have hK64 : K < 64 := by omega
  -- the sets done
  have fin : ∀ (x : Nat) (z : iv_M), (∀ q, x ≤ q → q < P → bwy may P m K = 0 ∨ x = P) → x ≤ P → BV may P m (K + 1) x z → BV may P m K 0 z := fun x z hx hxP hz T hT => by
    rw [hz T hT]
    congr 2
    refine bsm_congr P (fun q hq => ?_)
    unfold bdn
    by_cases c1 : K + 1 ≤ T - 2 ^ q
    · rw [if_pos (Or.inl c1), if_pos (Or.inl (by omega))]
    · by_cases c2 : T - 2 ^ q = K
      · rw [if_pos (show K ≤ T - 2 ^ q ∨ _ from Or.inl (by omega))]
        by_cases c3 : q < x
        · rw [if_pos (Or.inr ⟨by omega, c3⟩)]
        · rw [if_neg (by omega)]
          rcases hx q (by omega) hq with w | w
          · unfold btm; rw [c2, w]; split <;> rfl
          · omega
      · rw [if_neg (by omega), if_neg (by omega)]
  intro d
  induction d with
  | zero =>
    intro x f z hx hf hz ho
    obtain ⟨f', rfl⟩ : ∃ f', f = f' + 1 := ⟨f - 1, by omega⟩
    refine ⟨z, ?_, fin x z (fun q h1 h2 => by omega) (by omega) hz, ho⟩
    rw [FX4_layPeople_l48, if_pos (by rw [ho qh hqh, hp]; omega)]
  | succ d ih =>
    intro x f z hx hf hz ho
    obtain ⟨f', rfl⟩ : ∃ f', f = f' + 1 := ⟨f - 1, by omega⟩
    have hxP : x < P := by omega
    -- the set itself has not been added to
    have hself : bsm (bdn may P m (K + 1) x K) P = 0 := by
      have : ∀ q, q < P → bdn may P m (K + 1) x K q = 0 := fun q hq => by
        unfold bdn
        by_cases c : btm may P m K q = 0
        · rw [c]; split <;> rfl
        · have hb := (bbt_sub ⟨K, hK64⟩ ⟨q, by omega⟩ ⟨q, by omega⟩ (btm_bit c).1).2
          have hb' : 2 ^ q ≤ K := hb
          have := Nat.two_pow_pos q
          rw [if_neg (by omega)]
      rw [bsm_congr P (g := fun _ => 0) this, bsm_zero]
    have hv : z 111 K = ((bwy may P m K : Nat) : Int) := by rw [hz K hK, hself, Nat.add_zero]
    have bK := bwy_le (may := may) (P := P) (m := m) (T := K) (by omega) hP
    have same : (∀ T, T < 2 ^ P → T - 2 ^ x = K → bbt T x = 1 → btm may P m T x = 0) → BV may P m (K + 1) (x + 1) z := fun hh T hT => by
      rw [hz T hT]
      congr 2
      refine bsm_congr P (fun q hq => ?_)
      unfold bdn
      by_cases c1 : K + 1 ≤ T - 2 ^ q ∨ (T - 2 ^ q + 1 = K + 1 ∧ q < x)
      · rw [if_pos c1, if_pos (by omega)]
      · rw [if_neg c1]
        by_cases c2 : T - 2 ^ q = K ∧ q = x
        · rw [if_pos (by omega)]
          obtain ⟨c3, c4⟩ := c2
          subst c4
          by_cases c5 : btm may P m T q = 0
          · exact c5.symm
          · exact (hh T hT c3 (btm_bit c5).1).symm
        · rw [if_neg (by omega)]
    have start : FX4_layPeople_l48 N 102 qh full (m : Int) (K : Int) kx (f' + 1) z (x : Int) = (if ((bwy may P m K : Nat) : Int) ≤ 0 then (kx z) else (if ((bbt K x : Nat) : Int) = 0 then (if (bAn (sr32 (s0 110 x) m) 1) = 1 then ((rd z 111 64 (bOr K (sl32 1 x))).bind fun v_854 => ((rd z 111 64 K).bind fun v_855 => ((wr z 111 64 (bOr K (sl32 1 x)) (w32 (v_854 + v_855))).bind fun s_856 => (FX4_layPeople_l48 N 102 qh full (m : Int) (K : Int) kx f' s_856 ((x + 1 : Nat) : Int))))) else (FX4_layPeople_l48 N 102 qh full (m : Int) (K : Int) kx f' z ((x + 1 : Nat) : Int))) else (FX4_layPeople_l48 N 102 qh full (m : Int) (K : Int) kx f' z ((x + 1 : Nat) : Int)))) := by
      rw [FX4_layPeople_l48, if_neg (by rw [ho qh hqh, hp]; omega)]
      unfold FX4_layPeople_b114
      simp only [Nat.reduceAdd]
      rw [rd_ok (by omega) (by omega), Option.bind_some, hv, bt_int (by omega), rd_ok (by omega) (by omega), Option.bind_some, ho 110 (by omega), w32_id (x := (x : Int) + 1) (by omega) (by omega)]
      rfl
    by_cases z0 : bwy may P m K = 0
    · refine ⟨z, ?_, fin x z (fun q h1 h2 => Or.inl z0) (by omega) hz, ho⟩
      rw [start, if_pos (by omega)]
    rw [if_neg (by omega)] at start
    rcases bbt_01 K x with b | b
    rotate_left
    · -- one of them lies already
      rw [if_neg (by omega)] at start
      obtain ⟨z', g1, g2, g3⟩ := ih (x + 1) f' z (by omega) (by omega) (same (fun T hT h1 h2 => by
        have := (bbt_sub ⟨T, by omega⟩ ⟨x, by omega⟩ ⟨x, by omega⟩ h2).1
        have h3 : bbt (T - 2 ^ x) x = 0 := by simpa using this
        rw [h1, b] at h3; omega)) ho
      exact ⟨z', start.trans g1, g2, g3⟩
    rw [if_pos (by omega)] at start
    by_cases w : may x m = true
    rotate_left
    · rw [if_neg (fun q => w ((hmay x m hxP hm).mp q))] at start
      obtain ⟨z', g1, g2, g3⟩ := ih (x + 1) f' z (by omega) (by omega) (same (fun T hT h1 h2 => by unfold btm; rw [if_neg (fun q => w q.2)])) ho
      exact ⟨z', start.trans g1, g2, g3⟩
    rw [if_pos ((hmay x m hxP hm).mpr w)] at start
    have hor : bOr (K : Int) (sl32 1 (x : Int)) = ((K + 2 ^ x : Nat) : Int) := bor_all ⟨K, hK64⟩ ⟨x, by omega⟩ b
    have htop : K + 2 ^ x < 2 ^ P := bt_top ⟨P, by omega⟩ ⟨K, hK64⟩ ⟨x, by omega⟩ hxP hK b
    have hbit : bbt (K + 2 ^ x) x = 1 := bbt_add ⟨K, hK64⟩ ⟨x, by omega⟩ b
    have hT := hz (K + 2 ^ x) htop
    have bT := bwy_le (may := may) (P := P) (m := m) (T := K + 2 ^ x) (by omega) hP
    have bS : bsm (bdn may P m (K + 1) x (K + 2 ^ x)) P ≤ 2985984 * P := bsm_le P (fun q _ => by
      unfold bdn btm
      split
      · split
        · exact bwy_le (by omega) hP
        · omega
      · omega)
    obtain ⟨W, hW⟩ : ∃ W, W = K + 2 ^ x := ⟨_, rfl⟩
    rw [← hW] at hor htop hbit hT bT bS
    have hWx : W - 2 ^ x = K := by omega
    obtain ⟨y, hy⟩ : ∃ y, y = mu z 111 (W : Int) (z 111 (W : Int) + z 111 K) := ⟨_, rfl⟩
    have w64 : W < 64 := by omega
    clear hW
    rw [hor, rd_ok (by omega) (by omega), Option.bind_some, rd_ok (by omega) (by omega), Option.bind_some, w32_id (by rw [hT, hv]; omega) (by rw [hT, hv]; omega), wr_ok (by omega) (by omega), Option.bind_some, ← hy] at start
    have oy : ∀ a, a ≠ 111 → y a = s0 a := fun a ha => by rw [hy, mu_rw ha]; exact ho a ha
    have hyv : BV may P m (K + 1) (x + 1) y := fun T hTT => by
      by_cases e : T = W
      · rw [e, hy, mu_eq, hT, hv]
        have : bsm (bdn may P m (K + 1) (x + 1) W) P = bsm (bdn may P m (K + 1) x W) P + bdn may P m (K + 1) (x + 1) W x := bsm_one P hxP (fun q hq hqx => by
          unfold bdn
          by_cases c : K + 1 ≤ W - 2 ^ q ∨ (W - 2 ^ q + 1 = K + 1 ∧ q < x)
          · rw [if_pos c, if_pos (by omega)]
          · rw [if_neg c, if_neg (by omega)]) (by unfold bdn; rw [if_neg (by omega)])
        have last : bdn may P m (K + 1) (x + 1) W x = bwy may P m K := by
          unfold bdn btm
          rw [if_pos (by omega), if_pos ⟨hbit, w⟩, hWx]
        rw [this, last]
        omega
      · rw [hy, mu_ne (by omega), hz T hTT]
        congr 2
        refine bsm_congr P (fun q hq => ?_)
        unfold bdn
        by_cases c1 : K + 1 ≤ T - 2 ^ q ∨ (T - 2 ^ q + 1 = K + 1 ∧ q < x)
        · rw [if_pos c1, if_pos (by omega)]
        · rw [if_neg c1]
          by_cases c2 : T - 2 ^ q = K ∧ q = x
          · rw [if_pos (by omega)]
            obtain ⟨c3, c4⟩ := c2
            subst c4
            by_cases c5 : btm may P m T q = 0
            · exact c5.symm
            · have h' : 2 ^ q ≤ T := (bbt_sub ⟨T, by omega⟩ ⟨q, by omega⟩ ⟨q, by omega⟩ (btm_bit c5).1).2
              have h2' : 2 ^ q ≤ W := (bbt_sub ⟨W, by omega⟩ ⟨q, by omega⟩ ⟨q, by omega⟩ hbit).2
              omega
          · rw [if_neg (by omega)]
    obtain ⟨z', g1, g2, g3⟩ := ih (x + 1) f' y (by omega) (by omega) hyv oy
    exact ⟨z', start.trans g1, g2, g3⟩
/-- one room: the loop over sets, downwards -/
theorem bed_sets {N : Nat} {qh : Nat} {may : Nat → Nat → Bool} {P m n : Nat} {kx : iv_M → Option (Int × iv_M)} {full : Int} {s0 : iv_M} (hN : 100 ≤ N) (hP : P ≤ 6) (hm : m < n) (hn : n ≤ 12) (hp : s0 qh 2 = P) (hqh : qh ≠ 111) (hmay : ∀ p r : Nat, p < P → r < n → (bAn (sr32 (s0 110 p) r) 1 = 1 ↔ may p r = true)) : ∀ (K f : Nat) (z : iv_M), K ≤ 2 ^ P → K < f → BV may P m K 0 z → (∀ a, a ≠ 111 → z a = s0 a) → ∃ z', FX4_layPeople_l40 N 102 qh full (m : Int) kx f z ((K : Int) - 1) = kx z' ∧ BV may P m 0 0 z' ∧ ∀ a, a ≠ 111 → z' a = s0 a := by
  have h64 := pow6 hP
  intro K
  induction K with
  | zero =>
    intro f z _ hf hz ho
    obtain ⟨f', rfl⟩ : ∃ f', f = f' + 1 := ⟨f - 1, by omega⟩
    refine ⟨z, ?_, hz, ho⟩
    rw [FX4_layPeople_l40, if_pos (by omega)]
  | succ K ih =>
    intro f z hK hf hz ho
    obtain ⟨f', rfl⟩ : ∃ f', f = f' + 1 := ⟨f - 1, by omega⟩
    obtain ⟨y, y1, y2, y3⟩ := bed_in (N := N) (qh := qh) (may := may) (P := P) (m := m) (n := n) (K := K) (kx := fun (s_845 : iv_M) => (FX4_layPeople_b120 N s_845 102 qh full (m : Int) (K : Int) (FX4_layPeople_l40 N 102 qh full (m : Int) kx f') kx)) (full := full) (s0 := s0) hP hm hn (by omega) hp hqh hmay P 0 N z (by omega) (by omega) hz ho
    obtain ⟨z', g1, g2, g3⟩ := ih f' y (by omega) (by omega) y2 y3
    refine ⟨z', ?_, g2, g3⟩
    rw [FX4_layPeople_l40, if_neg (by omega), show ((K + 1 : Nat) : Int) - 1 = (K : Int) by omega]
    refine Eq.trans y1 ?_
    show FX4_layPeople_b120 N y 102 qh full (m : Int) (K : Int) (FX4_layPeople_l40 N 102 qh full (m : Int) kx f') kx = _
    unfold FX4_layPeople_b120
    rw [w32_id (by omega) (by omega), show (K : Int) + -1 = (K : Int) - 1 by omega]
    exact g1
theorem bed_rooms {N : Nat} {qh : Nat} {may : Nat → Nat → Bool} {P n : Nat} {kx : iv_M → Option (Int × iv_M)} {s0 : iv_M} (hN : 100 ≤ N) (hP : P ≤ 6) (hn : n ≤ 12) (hp : s0 qh 2 = P) (hr : s0 (qh + 1) 2 = n) (hqh : qh ≠ 111) (hqh1 : qh + 1 ≠ 111) (hmay : ∀ p r : Nat, p < P → r < n → (bAn (sr32 (s0 110 p) r) 1 = 1 ↔ may p r = true)) : ∀ (d m f : Nat) (z : iv_M), m + d = n → d < f → (∀ T : Nat, T < 2 ^ P → z 111 T = ((bwy may P m T : Nat) : Int)) → (∀ a, a ≠ 111 → z a = s0 a) → ∃ z', FX4_layPeople_l26 N 102 qh (((2 ^ P : Nat) : Int) - 1) kx f z (m : Int) = kx z' ∧ (∀ T : Nat, T < 2 ^ P → z' 111 T = ((bwy may P n T : Nat) : Int)) ∧ ∀ a, a ≠ 111 → z' a = s0 a := by
  have h64 := pow6 hP
  intro d
  induction d with
  | zero =>
    intro m f z hm hf hz ho
    obtain ⟨f', rfl⟩ : ∃ f', f = f' + 1 := ⟨f - 1, by omega⟩
    have : m = n := by omega
    subst this
    refine ⟨z, ?_, hz, ho⟩
    rw [FX4_layPeople_l26, if_pos (by rw [ho _ hqh1, hr]; omega)]
  | succ d ih =>
    intro m f z hm hf hz ho
    obtain ⟨f', rfl⟩ : ∃ f', f = f' + 1 := ⟨f - 1, by omega⟩
    have hz0 : BV may P m (2 ^ P) 0 z := fun T hT => by
      rw [hz T hT]
      have : bsm (bdn may P m (2 ^ P) 0 T) P = 0 := by
        rw [bsm_congr P (g := fun _ => 0) (fun q hq => by have := Nat.sub_le T (2 ^ q); unfold bdn; rw [if_neg (by omega)]), bsm_zero]
      rw [this, Nat.add_zero]
    obtain ⟨y, y1, y2, y3⟩ := bed_sets (N := N) (qh := qh) (may := may) (P := P) (m := m) (n := n) (kx := fun (s_842 : iv_M) => (FX4_layPeople_l26 N 102 qh (((2 ^ P : Nat) : Int) - 1) kx f' s_842 (w32 ((m : Int) + 1)))) (full := ((2 ^ P : Nat) : Int) - 1) (s0 := s0) hN hP (by omega) hn hp hqh hmay (2 ^ P) N z (Nat.le_refl _) (by omega) hz0 ho
    obtain ⟨z', g1, g2, g3⟩ := ih (m + 1) f' y (by omega) (by omega) (fun T hT => by
      rw [y2 T hT, bwy_next (by omega) hP]
      have : bsm (bdn may P m 0 0 T) P = bsm (btm may P m T) P := bsm_congr P (fun q hq => by unfold bdn; rw [if_pos (Or.inl (Nat.zero_le _))])
      rw [this]) y3
    refine ⟨z', ?_, g2, g3⟩
    rw [FX4_layPeople_l26, if_neg (by rw [ho _ hqh1, hr]; omega)]
    refine Eq.trans y1 ?_
    show FX4_layPeople_l26 N 102 qh (((2 ^ P : Nat) : Int) - 1) kx f' y (w32 ((m : Int) + 1)) = _
    rw [w32_id (by omega) (by omega)]
    exact g1
theorem bms_full : ∀ P : Fin 7, bms (2 ^ P.val - 1) P.val 0 = bps P.val 0 := by decide +kernel
theorem bms_0 : ∀ d p, bms 0 d p = [] := by
  intro d
  induction d with
  | zero => intro p; rfl
  | succ d ih =>
    intro p
    show (if bbt 0 p = 1 then p :: bms 0 d (p + 1) else bms 0 d (p + 1)) = []
    have : bbt 0 p = 0 := by unfold bbt; rw [Nat.zero_div]
    rw [this, if_neg (by decide), ih]
theorem bwy_0 {may : Nat → Nat → Bool} : ∀ (P : Fin 7) (T : Fin 64), T.val < 2 ^ P.val → (bms T.val P.val 0 = [] ↔ T.val = 0) := by decide +kernel
theorem layPeople_ok {N : Nat} {qh : Nat} {may : Nat → Nat → Bool} {P n : Nat} {s : iv_M} (hN : 100 ≤ N) (hP : P ≤ 6) (hn : n ≤ 12) (hp : s qh 2 = P) (hr : s (qh + 1) 2 = n) (hqh : qh ≠ 111) (hqh1 : qh + 1 ≠ 111) (hmay : ∀ p r : Nat, p < P → r < n → (bAn (sr32 (s 110 p) r) 1 = 1 ↔ may p r = true)) : ∃ z, FX4_layPeople N s 102 qh = some (((bas may n P 0 (fun _ => false)).length : Int), z) ∧ ∀ a, a ≠ 111 → z a = s a := by
  have h64 := pow6 hP
  have hpos := Nat.two_pow_pos P
  obtain ⟨g, hg⟩ : ∃ g, g = mu (flM s 111 64 0) 111 0 1 := ⟨_, rfl⟩
  have og : ∀ a, a ≠ 111 → g a = s a := fun a ha => by rw [hg, mu_rw ha]; funext i; exact fl_ne ha
  have h0 : ∀ T : Nat, T < 2 ^ P → g 111 T = ((bwy may P 0 T : Nat) : Int) := fun T hT => by
    by_cases e : T = 0
    · rw [e, hg]
      unfold bwy
      rw [bms_0]
      exact mu_eq
    · rw [hg, mu_ne (by omega), fl_eq (by omega) (by omega)]
      unfold bwy
      cases hb : bms T P 0 with
      | nil => exact absurd ((bwy_0 (may := may) ⟨P, by omega⟩ ⟨T, by omega⟩ hT).mp hb) e
      | cons p S => rfl
  have fl := fill_ok (N := N) (q := 111) (s := s) (v := 0) (n := 64) (by decide) (by omega)
  obtain ⟨z, z1, z2, z3⟩ := bed_rooms (N := N) (qh := qh) (may := may) (P := P) (n := n) (kx := fun (s_837 : iv_M) => ((rd s_837 111 64 (((2 ^ P : Nat) : Int) - 1)).bind fun v_839 => (some (v_839, s_837)))) (s0 := s) hN hP hn hp hr hqh hqh1 hmay n 0 N g (by omega) (by omega) h0 og
  refine ⟨z, ?_, z3⟩
  have hf : w32 (sl32 1 (g qh 2) - 1) = ((2 ^ P : Nat) : Int) - 1 := by rw [og qh hqh, hp, sl32_1 (by omega) (by omega), Int.toNat_natCast, w32_id (by omega) (by omega)]
  unfold FX4_layPeople
  simp only [Nat.reduceAdd]
  rw [fl, Option.bind_some, wr_ok (by omega) (by omega), Option.bind_some, ← hg, hf]
  refine Eq.trans z1 ?_
  show ((rd z 111 64 (((2 ^ P : Nat) : Int) - 1)).bind fun v_839 => (some (v_839, z))) = _
  have e : (((2 ^ P : Nat) : Int) - 1) = ((2 ^ P - 1 : Nat) : Int) := by omega
  rw [e, rd_ok (by omega) (by omega), Option.bind_some, z2 _ (by omega), bas_len]
  unfold bwy
  rw [bms_full ⟨P, by omega⟩]
