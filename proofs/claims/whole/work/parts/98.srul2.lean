-- RULE: steps of the class's reader
def vws : List (List Int) := [[107, 105, 110, 100], [114, 111, 111, 109], [111, 116, 104, 101, 114], [120], [121], [116, 111, 120], [116, 111, 121], [100, 111, 111, 114, 115], [108, 111, 99, 107, 115], [112, 101, 111, 112, 108, 101], [110, 105, 103, 104, 116], [102, 97, 117, 108, 116, 115], [97, 102, 116, 101, 114]]
abbrev wNot : List Int := [110, 111, 116]
abbrev wAnd : List Int := [97, 110, 100]
abbrev wOr : List Int := [111, 114]
abbrev wBar : List Int := [98, 97, 114]
theorem str_v : Str 1000011 (jnw vws) := str_ok (by decide)
theorem str_vn : Str 1000013 (jnw (vws ++ [wNot])) := str_ok (by decide)
theorem str_b : Str 1000012 (jnw [wBar]) := str_ok (by decide)
theorem str_ao : Str 1000014 (jnw [wAnd, wOr]) := str_ok (by decide)
theorem idw_app {b : Int → Int} {p e : Int} {w : List Int} : ∀ (ws : List (List Int)) (n : Int), 0 ≤ n → idw b p e (ws ++ [w]) n = if idw b p e ws n = -1 then (if isw b p e w = true then n + ws.length else -1) else idw b p e ws n := by
  intro ws
  induction ws with
  | nil =>
    intro n n0
    show (if isw b p e w = true then n else -1) = if (-1 : Int) = -1 then (if isw b p e w = true then n + ((0 : Nat) : Int) else -1) else -1
    rw [if_pos (show (-1 : Int) = -1 from rfl), show n + ((0 : Nat) : Int) = n by omega]
  | cons v ws ih =>
    intro n n0
    show (if isw b p e v = true then n else idw b p e (ws ++ [w]) (n + 1)) = if (if isw b p e v = true then n else idw b p e ws (n + 1)) = -1 then (if isw b p e w = true then n + ((ws.length + 1 : Nat) : Int) else -1) else (if isw b p e v = true then n else idw b p e ws (n + 1))
    by_cases g : isw b p e v = true
    · rw [if_pos g, if_pos g, if_neg (by omega)]
    · rw [if_neg g, if_neg g, ih (n + 1) (by omega), show n + 1 + (ws.length : Int) = n + ((ws.length + 1 : Nat) : Int) by omega]
def FrC (c c' : iv_M) : Prop := ∀ a, a ≠ 57 → a ≠ 58 → a ≠ 60 → a ≠ 61 → c' a = c a
theorem FrC.refl {c : iv_M} : FrC c c := fun _ _ _ _ _ => rfl
theorem FrC.trans {c c1 c2 : iv_M} (h : FrC c c1) (h2 : FrC c1 c2) : FrC c c2 := fun a x y z w => (h2 a x y z w).trans (h a x y z w)
theorem Fr3.c {c c' : iv_M} (h : Fr3 c c') : FrC c c' := fun a x _ z w => h a x z w
theorem rd_fr {c : iv_M} {a b d : Int} : FrC c (rdM c 58 a b d) := fun x _ h _ _ => rdM_o h
theorem RD_3x {c c' : iv_M} {b : Int → Int} {L p fr ft : Int} (h : RD c 58 b L p fr ft) (h3 : Fr3 c c') : RD c' 58 b L p fr ft := by
  obtain ⟨h0, h1, h2, h3', h4, h5, h6⟩ := h
  have e := h3 58 (by decide) (by decide) (by decide)
  have e1 := h3 1 (by decide) (by decide) (by decide)
  exact ⟨by rw [e]; exact h0, by rw [e]; exact h1, by rw [e]; exact h2, by rw [e]; exact h3', by rw [e]; exact h4, h5, fun i i0 i1 => by rw [e1]; exact h6 i i0 i1⟩
theorem CK_rd {c : iv_M} {E : List (Int × Int)} {W : List Int} {stg cmp cl dep br cnt x y z : Int} (h : CK c E W stg cmp cl dep br cnt) : CK (rdM c 58 x y z) E W stg cmp cl dep br cnt := CK_ext (rdM_o (by decide)) (rdM_o (by decide)) (rdM_o (by decide)) h
theorem CK_m {c : iv_M} {E : List (Int × Int)} {W : List Int} {stg cmp cl dep br cnt i v : Int} (h : CK c E W stg cmp cl dep br cnt) : CK (mu c 58 i v) E W stg cmp cl dep br cnt := CK_ext (mu_rw (by decide)) (mu_rw (by decide)) (mu_rw (by decide)) h
/-- a value where it stands: its end, what is told of it, and its fault -/
def vEnd (b : Int → Int) (L p : Int) : Int := if 97 ≤ sg b L p ∧ sg b L p ≤ 122 then el b L p else edg b L p
def vEnt (b : Int → Int) (L p : Int) : Int × Int := if 97 ≤ sg b L p ∧ sg b L p ≤ 122 then (1, idw b p (el b L p) vws 0) else (0, nmv b L p)
def vFt (b : Int → Int) (L p : Int) : Int := if 97 ≤ sg b L p ∧ sg b L p ≤ 122 then wft b p (el b L p) vws 0 else nft b L p 0 99999 0
def cFt (ft cnt p : Int) : Int := if cnt < 60 then ft else ffl ft p 3
theorem countOne_ok {N : Nat} {c : iv_M} {b : Int → Int} {L p fr ft x : Int} {E : List (Int × Int)} {W : List Int} {stg cmp cl dep br cnt : Int} (hR : RD c 58 b L p fr ft) (h : CK c E W stg cmp cl dep br cnt) (c0 : 0 ≤ cnt) (c1 : cnt ≤ 1000) (x0 : 0 ≤ x) (x1 : x ≤ 1000) : ∃ c', FX8_countOne N c 57 x = some c' ∧ RD c' 58 b L p fr (cFt ft cnt x) ∧ CK c' E W stg cmp cl dep br (cnt + 1) ∧ FrC c c' := by
  have h10 := h.2.2.2.2.2.2.2
  unfold FX8_countOne FX8_countOne_b18 cFt
  simp only [Nat.reduceAdd]
  rw [h10]
  by_cases g : cnt < 60
  · rw [if_pos g, if_pos g, pt_ok, Option.bind_some, w32_id (by omega) (by omega)]
    refine ⟨_, rfl, RD_3x hR mu_fr, ?_, Fr3.c mu_fr⟩
    have := CK_f (i := 10) (v := cnt + 1) h (by omega) (by omega)
    simp only [Int.reduceEq, if_true, if_false] at this
    exact this
  · rw [if_neg g, if_neg g, fail_ok x0 x1 (by omega) (by omega), Option.bind_some, hR.2.2.2.2.1, pt_ok, Option.bind_some, mu_rw (show (57 : Nat) ≠ 58 by decide), h10, w32_id (by omega) (by omega)]
    refine ⟨_, rfl, RD_3x (RD_4 hR) mu_fr, ?_, fun a x1 x2 x3 x4 => by rw [mu_rw x1, mu_rw x2]⟩
    have := CK_f (i := 10) (v := cnt + 1) (CK_m (i := 4) (v := ffl ft x 3) h) (by omega) (by omega)
    simp only [Int.reduceEq, if_true, if_false] at this
    exact this
theorem b60_ok {N : Nat} {c : iv_M} {b : Int → Int} {L p fr ft : Int} {E : List (Int × Int)} {W : List Int} {stg cmp cl dep br cnt x : Int} {e : Int × Int} (hR : RD c 58 b L p fr ft) (h : CK c E W stg cmp cl dep br cnt) (hl : E.length < 400) (hx : cce e = x) (c0 : 0 ≤ cnt) (c1 : cnt ≤ 1000) (f0 : 0 ≤ fr) (f1 : fr ≤ 1000) : ∃ c', FX8_readValue_b60 N c 57 x = some c' ∧ RD c' 58 b L p fr (cFt ft cnt fr) ∧ CK c' (E ++ [e]) W (if cmp = 0 then 3 else 4) cmp cl dep br (cnt + 1) ∧ FrC c c' := by
  obtain ⟨c1', a1, a2, a3, a4⟩ := countOne_ok (N := N) (x := fr) hR h c0 c1 f0 f1
  obtain ⟨c2, b1, b2, b3⟩ := emit_ok (N := N) (x := x) (e := e) a3 hl hx
  unfold FX8_readValue_b60 FX8_readValue_b89
  simp only [Nat.reduceAdd]
  have h6 := b2.2.2.2.1
  rw [hR.2.2.2.1, a1, Option.bind_some, b1, Option.bind_some, h6]
  have fin : ∀ v : Int, v = (if cmp = 0 then 3 else 4) → ∃ c', ((pt c2 57 5 v).bind fun s_1204 => some s_1204) = some c' ∧ RD c' 58 b L p fr (cFt ft cnt fr) ∧ CK c' (E ++ [e]) W (if cmp = 0 then 3 else 4) cmp cl dep br (cnt + 1) ∧ FrC c c' := fun v hv => by
    rw [pt_ok, Option.bind_some]
    refine ⟨_, rfl, RD_3x (RD_3x a2 b3) mu_fr, ?_, (a4.trans b3.c).trans (Fr3.c mu_fr)⟩
    have := CK_f (i := 5) (v := v) b2 (by omega) (by omega)
    simp only [Int.reduceEq, if_true, if_false] at this
    rw [hv] at this ⊢
    exact this
  by_cases g : cmp = 0
  · rw [if_pos g]; exact fin 3 (by rw [if_pos g])
  · rw [if_neg g]; exact fin 4 (by rw [if_neg g])
theorem vEnd_bd {b : Int → Int} {L p : Int} (p1 : p ≤ L) : p ≤ vEnd b L p ∧ vEnd b L p ≤ L := by
  unfold vEnd
  split
  · exact ⟨rnn_ge, rnn_le p1⟩
  · exact ⟨rnn_ge, rnn_le p1⟩
theorem c_value {N q2 : Nat} {c : iv_M} {b : Int → Int} {L p fr : Int} {ws : List (List Int)} {E : List (Int × Int)} {W : List Int} {stg cmp cl dep br cnt : Int} (hN : 1000 ≤ N) (hT : TX b L) (p0 : 0 ≤ p) (p1 : p ≤ L) (hbl : bl b L p = p) (hS : Str q2 (jnw ws)) (hws : ws = vws ∨ (ws = vws ++ [wNot] ∧ isw b p (el b L p) wNot = false)) (hR : RD c 58 b L p fr 0) (h : CK c E W stg cmp cl dep br cnt) (hl : E.length < 400) (c0 : 0 ≤ cnt) (c1 : cnt ≤ 1000) : ∃ c', FX8_readValue N c 57 (sg b L p) q2 = some c' ∧ RD c' 58 b L (vEnd b L p) p (cFt (vFt b L p) cnt p) ∧ CK c' (E ++ [vEnt b L p]) W (if cmp = 0 then 3 else 4) cmp cl dep br (cnt + 1) ∧ FrC c c' := by
  have hL := hT.2.1
  unfold FX8_readValue
  simp only [Nat.reduceAdd]
  rw [isLetter_ok, Option.bind_some]
  by_cases g : 97 ≤ sg b L p ∧ sg b L p ≤ 122
  · have e1 : vEnd b L p = el b L p := by unfold vEnd; rw [if_pos g]
    have e2 : vEnt b L p = (1, idw b p (el b L p) vws 0) := by unfold vEnt; rw [if_pos g]
    have e3 : vFt b L p = wft b p (el b L p) vws 0 := by unfold vFt; rw [if_pos g]
    have tl : (jnw ws).length ≤ 900 ∧ ws.length ≤ 900 ∧ ∀ w, w ∈ ws → ∀ c, c ∈ w → c ≠ 44 := by
      rcases hws with rfl | ⟨rfl, _⟩ <;> exact ⟨by decide, by decide, by decide⟩
    have ix : idw b p (el b L p) ws 0 = idw b p (el b L p) vws 0 := by
      rcases hws with rfl | ⟨rfl, hn⟩
      · rfl
      · rw [idw_app _ _ (by omega), if_neg (show ¬ isw b p (el b L p) wNot = true by rw [hn]; decide)]
        split
        · next z => rw [z]
        · rfl
    have i13 : idw b p (el b L p) vws 0 = -1 ∨ (0 ≤ idw b p (el b L p) vws 0 ∧ idw b p (el b L p) vws 0 < 13) := by
      rcases idw_ge (b := b) (p := p) (e := el b L p) vws 0 (by omega) with u | u
      · left; exact u
      · right
        have : ((vws.length : Nat) : Int) = 13 := by decide
        omega
    have rw1 := readWord_ok (N := N) (ws := ws) hN hR hT hS tl.1 tl.2.1 tl.2.2 p0 (by omega)
    rw [hbl, ix] at rw1
    have wf : wft b p (el b L p) ws 0 = wft b p (el b L p) vws 0 := by unfold wft; rw [ix]
    rw [wf] at rw1
    rw [if_pos g, if_neg (by decide), rw1, Option.bind_some]
    dsimp only
    rw [if_neg (by omega), w32_id (by omega) (by omega), e1, e2, e3]
    obtain ⟨c', a1, a2, a3, a4⟩ := b60_ok (N := N) (x := 20 + idw b p (el b L p) vws 0) (e := (1, idw b p (el b L p) vws 0)) (rdM_RD (pl := el b L p) (fr' := p) (ft' := wft b p (el b L p) vws 0) hR) (CK_rd h) hl rfl c0 c1 p0 (by omega)
    exact ⟨c', a1, a2, a3, rd_fr.trans a4⟩
  · have e1 : vEnd b L p = edg b L p := by unfold vEnd; rw [if_neg g]
    have e2 : vEnt b L p = (0, nmv b L p) := by unfold vEnt; rw [if_neg g]
    have e3 : vFt b L p = nft b L p 0 99999 0 := by unfold vFt; rw [if_neg g]
    have rn := readNumber_ok (N := N) (lo := 0) (hi := 99999) hN hR hT p0 (by omega)
    rw [hbl] at rn
    have nv := nmv_lt (b := b) (L := L) (p := p)
    rw [if_neg g, if_pos rfl, rn, Option.bind_some]
    dsimp only
    rw [w32_id (by omega) (by omega), e1, e2, e3]
    obtain ⟨c', a1, a2, a3, a4⟩ := b60_ok (N := N) (x := 100 + nmv b L p) (e := (0, nmv b L p)) (rdM_RD (pl := edg b L p) (fr' := p) (ft' := nft b L p 0 99999 0) hR) (CK_rd h) hl rfl c0 c1 p0 (by omega)
    exact ⟨c', a1, a2, a3, rd_fr.trans a4⟩
-- the loop
theorem c_step {N : Nat} {c c' : iv_M} {b : Int → Int} {L p fr x : Int} {kx : iv_M → Option (Int × iv_M)} (hN : 1000 ≤ N) (hT : TX b L) (p0 : 0 ≤ p) (p1 : p ≤ L) (x0 : 0 ≤ x) (x1 : x ≤ 400) (hR : RD c 58 b L p fr 0) (hr : FX8_readNext N (mu c 58 2 (bl b L p)) 57 (sg b L (bl b L p)) = some (1, c')) (hf : c' 58 4 = 0) : ∀ n, FX8_read_l54 N 57 kx (n + 1) c 1 x = FX8_read_l54 N 57 kx n c' 1 (x + 1) := by
  intro n
  have hL := hT.2.1
  rw [FX8_read_l54, if_neg (by omega), if_neg (by decide)]
  simp only [Nat.reduceAdd]
  rw [skip_ok hN hR hT p0 (by omega), Option.bind_some]
  dsimp only
  rw [hr, Option.bind_some]
  dsimp only
  unfold FX8_read_b95
  rw [if_neg (by decide), if_pos hf, w32_id (by omega) (by omega)]
theorem c_fail {N : Nat} {c c' : iv_M} {b : Int → Int} {L p fr x v : Int} {kx : iv_M → Option (Int × iv_M)} (hN : 1000 ≤ N) (hT : TX b L) (p0 : 0 ≤ p) (p1 : p ≤ L) (x0 : 0 ≤ x) (x1 : x ≤ 400) (hR : RD c 58 b L p fr 0) (hr : FX8_readNext N (mu c 58 2 (bl b L p)) 57 (sg b L (bl b L p)) = some (v, c')) (hf : v = 0 ∨ c' 58 4 ≠ 0) : ∀ n, FX8_read_l54 N 57 kx (n + 2) c 1 x = kx c' := by
  intro n
  have hL := hT.2.1
  have stop : FX8_read_l54 N 57 kx (n + 1) c' 0 (x + 1) = kx c' := by
    rw [FX8_read_l54]
    by_cases z : 400 < x + 1
    · rw [if_pos z]
    · rw [if_neg z, if_pos rfl]
  rw [show n + 2 = (n + 1) + 1 from rfl, FX8_read_l54, if_neg (by omega), if_neg (by decide)]
  simp only [Nat.reduceAdd]
  rw [skip_ok hN hR hT p0 (by omega), Option.bind_some]
  dsimp only
  rw [hr, Option.bind_some]
  dsimp only
  unfold FX8_read_b94 FX8_read_b95
  rw [w32_id (by omega) (by omega)]
  by_cases z : v = 0
  · rw [if_pos z]; exact stop
  · rw [if_neg z, if_neg (by rcases hf with u | u; exact absurd u z; exact u)]; exact stop
