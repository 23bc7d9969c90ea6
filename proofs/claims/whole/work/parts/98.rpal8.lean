-- PALACE: a clause
def pws : List (List Int) := [[102, 108, 111, 111, 114], [114, 111, 111, 109], [102, 105, 120, 101, 100], [107, 101, 121], [112, 101, 114, 115, 111, 110], [119, 97, 121, 115]]
theorem str_pws : Str 1000010 (jnw pws) := str_ok (by decide)
theorem str_p0 : Str 1000031 [102, 108, 111, 111, 114] := str_ok (by decide)
theorem str_p1 : Str 1000016 [114, 111, 111, 109] := str_ok (by decide)
theorem str_p2 : Str 1000032 [102, 105, 120, 101, 100] := str_ok (by decide)
theorem str_p3 : Str 1000033 [107, 101, 121] := str_ok (by decide)
theorem str_p4 : Str 1000034 [112, 101, 114, 115, 111, 110] := str_ok (by decide)
theorem str_p5 : Str 1000035 [119, 97, 121, 115] := str_ok (by decide)
theorem pw_step {N f qk : Nat} {z : iv_M} {b : Int → Int} {L p ft n k : Int} {w : List Int} {kx : iv_M → Int → Option iv_M} (hN : 1000 ≤ N) (hR : RT z b L p ft) (hT : TX b L) (p0 : 0 ≤ p) (p1 : p ≤ 1000) (k0 : 0 ≤ k) (k5 : k < 6) (hw : FX12_palaceWord N z k = some qk) (hS : Str qk w) (wl : w.length ≤ 100) : FX12_palaceClause_l11 N 113 n p kx (f + 1) z k = if isw b p (el b L p) w = true then kx z k else FX12_palaceClause_l11 N 113 n p kx f z (k + 1) := by
  rw [FX12_palaceClause_l11, if_neg (by omega), hw, Option.bind_some, stood_ok hN hR hT hS wl p0 p1, Option.bind_some, w32_id (by omega) (by omega)]
  by_cases g : isw b p (el b L p) w = true
  · rw [if_pos g, if_pos g, if_neg (by decide)]
  · rw [if_neg g, if_neg g, if_pos rfl]
theorem pw_loop {N : Nat} {z : iv_M} {b : Int → Int} {L p ft n : Int} {kx : iv_M → Int → Option iv_M} (hN : 1000 ≤ N) (hR : RT z b L p ft) (hT : TX b L) (p0 : 0 ≤ p) (p1 : p ≤ 1000) : FX12_palaceClause_l11 N 113 n p kx N z 0 = kx z (if idw b p (el b L p) pws 0 = -1 then 6 else idw b p (el b L p) pws 0) := by
  obtain ⟨f, hf⟩ : ∃ f, N = f + 1 + 1 + 1 + 1 + 1 + 1 + 1 := ⟨N - 7, by omega⟩
  have st : ∀ F : Nat, F = f + 1 + 1 + 1 + 1 + 1 + 1 + 1 → FX12_palaceClause_l11 N 113 n p kx F z 0 = kx z (if idw b p (el b L p) pws 0 = -1 then 6 else idw b p (el b L p) pws 0) := fun F hF => by
    rw [hF]
    unfold pws idw idw idw idw idw idw idw
    rw [pw_step hN hR hT p0 p1 (by omega) (by omega) (show FX12_palaceWord N z 0 = some 1000031 from rfl) str_p0 (by decide)]
    by_cases g0 : isw b p (el b L p) [102, 108, 111, 111, 114] = true
    · rw [if_pos g0, if_pos g0]; rfl
    rw [if_neg g0, if_neg g0, pw_step hN hR hT p0 p1 (by omega) (by omega) (show FX12_palaceWord N z (0 + 1) = some 1000016 from rfl) str_p1 (by decide)]
    by_cases g1 : isw b p (el b L p) [114, 111, 111, 109] = true
    · rw [if_pos g1, if_pos g1]; rfl
    rw [if_neg g1, if_neg g1, pw_step hN hR hT p0 p1 (by omega) (by omega) (show FX12_palaceWord N z (0 + 1 + 1) = some 1000032 from rfl) str_p2 (by decide)]
    by_cases g2 : isw b p (el b L p) [102, 105, 120, 101, 100] = true
    · rw [if_pos g2, if_pos g2]; rfl
    rw [if_neg g2, if_neg g2, pw_step hN hR hT p0 p1 (by omega) (by omega) (show FX12_palaceWord N z (0 + 1 + 1 + 1) = some 1000033 from rfl) str_p3 (by decide)]
    by_cases g3 : isw b p (el b L p) [107, 101, 121] = true
    · rw [if_pos g3, if_pos g3]; rfl
    rw [if_neg g3, if_neg g3, pw_step hN hR hT p0 p1 (by omega) (by omega) (show FX12_palaceWord N z (0 + 1 + 1 + 1 + 1) = some 1000034 from rfl) str_p4 (by decide)]
    by_cases g4 : isw b p (el b L p) [112, 101, 114, 115, 111, 110] = true
    · rw [if_pos g4, if_pos g4]; rfl
    rw [if_neg g4, if_neg g4, pw_step hN hR hT p0 p1 (by omega) (by omega) (show FX12_palaceWord N z (0 + 1 + 1 + 1 + 1 + 1) = some 1000035 from rfl) str_p5 (by decide)]
    by_cases g5 : isw b p (el b L p) [119, 97, 121, 115] = true
    · rw [if_pos g5, if_pos g5]; rfl
    rw [if_neg g5, if_neg g5, FX12_palaceClause_l11, if_pos (by decide)]
    rfl
  exact st N hf
/-- the word that stands where an index was found -/
theorem idw_at {b : Int → Int} {p e : Int} : ∀ (ws : List (List Int)) (n : Int) (k : Nat), idw b p e ws n = n + k → 0 ≤ n → ∃ w, ws[k]? = some w ∧ isw b p e w = true := by
  intro ws
  induction ws with
  | nil => intro n k h n0; unfold idw at h; omega
  | cons w ws ih =>
    intro n k h n0
    unfold idw at h
    by_cases g : isw b p e w = true
    · rw [if_pos g] at h
      have : k = 0 := by omega
      subst this
      exact ⟨w, rfl, g⟩
    · rw [if_neg g] at h
      rcases idw_ge (b := b) (p := p) (e := e) ws (n + 1) (by omega) with u | ⟨u, _⟩
      · omega
      · obtain ⟨k', rfl⟩ : ∃ k', k = k' + 1 := ⟨k - 1, by omega⟩
        obtain ⟨v, v1, v2⟩ := ih (n + 1) k' (by omega) (by omega)
        exact ⟨v, v1, v2⟩
def pfl (n k rooms people wt : Int) : Int := if n = 40 ∨ ¬ (n = 0 ↔ k = 0) then 1 else if k = 1 then (if rooms = 12 then 1 else 0) else if k = 4 then (if people = 6 then 1 else 0) else if k = 5 then wt else 0
theorem tooMuch_ok {N q : Nat} {s : iv_M} {n k rooms people wt : Int} (n0 : 0 ≤ n) (n40 : n ≤ 40) (k0 : 0 ≤ k) (k5 : k < 6) (h2 : s (q + 1) 2 = rooms) (h3 : s q 2 = people) (hw : s 54 1 = wt) (r12 : rooms ≤ 12) (p6 : people ≤ 6) (hwt : wt = 0 ∨ wt = 1) : FX5_isTooMuch N s 54 q n k = some (pfl n k rooms people wt) := by
  unfold FX5_isTooMuch FX5_isTooMuch_b15 FX5_isTooMuch_b24 FX5_isTooMuch_b27 FX5_isTooMuch_b51 FX5_isTooMuch_b71 FX5_isTooMuch_b88 FX5_isTooMuch_b89 pfl
  rw [h2, h3, hw]
  have e40 : 40 ≤ n ↔ n = 40 := by omega
  have hk : k = 0 ∨ k = 1 ∨ k = 2 ∨ k = 3 ∨ k = 4 ∨ k = 5 := by omega
  have er : rooms < 12 ↔ ¬ rooms = 12 := by omega
  have ep : people < 6 ↔ ¬ people = 6 := by omega
  by_cases a : n = 40
  · subst a
    rw [if_pos (by decide), if_pos (Or.inl rfl)]
  rw [if_neg (by omega)]
  by_cases c : n = 0
  · rw [if_pos c]
    by_cases d : k = 0
    · subst c; subst d; rfl
    · rw [if_neg d, if_neg (by decide), if_pos (by omega)]
  rw [if_neg c]
  by_cases d : k = 0
  · rw [if_pos d, if_neg (by decide), if_pos (by omega)]
  rw [if_neg d, if_pos rfl, if_neg (show ¬ (n = 40 ∨ ¬ (n = 0 ↔ k = 0)) by omega)]
  by_cases k1 : k = 1
  · rw [if_pos k1, if_pos k1]
    by_cases r : rooms = 12
    · rw [if_neg (by omega), if_pos r]; rfl
    · rw [if_pos (by omega), if_neg r]; rfl
  rw [if_neg k1, if_neg k1]
  by_cases k4 : k = 4
  · rw [if_pos k4, if_pos k4]
    by_cases r : people = 6
    · rw [if_neg (by omega), if_pos r]; rfl
    · rw [if_pos (by omega), if_neg r]; rfl
  rw [if_neg k4, if_neg k4]
  by_cases k5' : k = 5
  · rw [if_pos k5', if_pos k5']
    rcases hwt with rfl | rfl
    · rw [if_pos rfl]; rfl
    · rw [if_neg (by decide)]; rfl
  · rw [if_neg k5', if_neg k5']; rfl
theorem pfull_ok {N : Nat} {z : iv_M} {n k rooms people wt : Int} (n0 : 0 ≤ n) (n40 : n ≤ 40) (k0 : 0 ≤ k) (k5 : k < 6) (h2 : z 132 2 = rooms) (h3 : z 132 3 = people) (hw : z 113 38 = wt) (hwt : wt = 0 ∨ wt = 1) : FX12_isFull N z 113 k n = some (pfl n k rooms people wt) := by
  unfold FX12_isFull FX12_isFull_b15 FX12_isFull_b24 FX12_isFull_b27 FX12_isFull_b80 FX12_isFull_b97 pfl
  simp only [Nat.reduceAdd]
  rw [rd_ok (by omega) (by omega), Option.bind_some, rd_ok (by omega) (by omega), Option.bind_some, h2, h3, hw]
  by_cases a : n = 40
  · rw [if_pos a, if_pos (Or.inl a)]
  rw [if_neg a]
  by_cases d : k = 0
  · rw [if_pos d]
    by_cases c : n = 0
    · subst c; subst d; rfl
    · rw [if_neg c, if_neg (by decide), if_pos (by omega)]
  rw [if_neg d]
  by_cases c : n = 0
  · rw [if_pos c, if_neg (by decide), if_pos (by omega)]
  rw [if_neg c, if_pos trivial, if_neg (show ¬ (n = 40 ∨ ¬ (n = 0 ↔ k = 0)) by omega)]
  by_cases k1 : k = 1
  · rw [if_pos k1, if_pos k1]
    by_cases r : rooms = 12
    · rw [if_pos r, if_pos r]; rfl
    · rw [if_neg r, if_neg r]; rfl
  rw [if_neg k1, if_neg k1]
  by_cases k2 : k = 2
  · rw [if_pos k2, if_neg (by omega), if_neg (by omega)]
  rw [if_neg k2]
  by_cases k3 : k = 3
  · rw [if_pos k3, if_neg (by omega), if_neg (by omega)]
  rw [if_neg k3]
  by_cases k4 : k = 4
  · rw [if_pos k4, if_pos k4]
    by_cases r : people = 6
    · rw [if_pos r, if_pos r]; rfl
    · rw [if_neg r, if_neg r]; rfl
  have k5' : k = 5 := by omega
  rw [if_neg k4, if_neg k4, if_pos k5', if_pos hwt, if_pos k5']
