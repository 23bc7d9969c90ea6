-- WHAT A FLOOR IS: spoken of in the reference's rows (114 scalars, 115 told, 116 cell, 117 turned, 118 isFixed, 121 roomAt)
abbrev isC (B : iv_M) (x y : Int) : Prop := 0 ≤ x ∧ x < B 114 0 ∧ 0 ≤ y ∧ y < B 114 1
def dxx (d : Int) : Int := if d = 1 then 1 else if d = 3 then -1 else 0
def dyy (d : Int) : Int := if d = 2 then 1 else if d = 0 then -1 else 0
def nb (B : iv_M) (c d : Int) : Int := if isC B (c % 4 + dxx d) (c / 4 + dyy d) then 4 * (c / 4 + dyy d) + (c % 4 + dxx d) else -1
def sd (B : iv_M) (r d : Int) : Int := B 115 (4 * r + (d - B 117 r) % 4)
def srt (k : Int) : Int := if k < 3 then k else 1
def kd (B : iv_M) (c d : Int) : Int := if B 121 c = -1 then 3 else srt (sd B (B 121 c) d)
def kdn (B : iv_M) (c d : Int) : Int := if nb B c d = -1 then 3 else kd B (nb B c d) ((d + 2) % 4)
def bd (a b : Int) : Int := if a = b then 0 else if a = 3 ∨ b = 3 then (if a = 1 ∨ b = 1 then 1 else 0) else 1
def ed (B : iv_M) (c d : Int) : Int := bd (kd B c d) (kdn B c d)
/-- sizes, and sorts of sides -/
def Wa (B : iv_M) : Prop := 0 ≤ B 114 0 ∧ B 114 0 ≤ 4 ∧ 0 ≤ B 114 1 ∧ B 114 1 ≤ 4 ∧ 0 ≤ B 114 2 ∧ B 114 2 ≤ 12 ∧ (B 114 0 = 0 ↔ B 114 1 = 0) ∧ ∀ j, 0 ≤ j → j < 4 * B 114 2 → 0 ≤ B 115 j ∧ B 115 j ≤ 6
/-- what lies on cells -/
def Wc (B : iv_M) : Prop := ∀ c, 0 ≤ c → c < 16 → B 121 c = -1 ∨ (0 ≤ B 121 c ∧ B 121 c < B 114 2 ∧ B 116 (B 121 c) = c ∧ 0 ≤ B 117 (B 121 c) ∧ B 117 (B 121 c) < 4 ∧ c % 4 < B 114 0 ∧ c / 4 < B 114 1)
/-- every room lies -/
def Wr (B : iv_M) : Prop := ∀ r, 0 ≤ r → r < B 114 2 → 0 ≤ B 116 r ∧ B 116 r < 16 ∧ B 121 (B 116 r) = r
def FRc (s : iv_M) (q : Nat) (B : iv_M) : Prop :=
  s q 0 = B 114 0 ∧ s q 1 = B 114 1 ∧ s q 2 = B 114 2 ∧
  (∀ c, 0 ≤ c → c < 16 → s (q + 3) c = B 121 c) ∧
  (∀ c d, 0 ≤ c → c < 16 → 0 ≤ d → d < 4 → s (q + 5) (4 * c + d) = kd B c d) ∧
  (∀ c d, 0 ≤ c → c < 16 → 0 ≤ d → d < 4 → s (q + 6) (4 * c + d) = nb B c d) ∧
  (∀ j, 0 ≤ j → j < 4 * B 114 2 → s (q + 4) j = B 115 j) ∧
  (∀ c, 0 ≤ c → c < 16 → B 121 c ≠ -1 → s (q + 1) (B 121 c) = c ∧ s (q + 2) (B 121 c) = B 117 (B 121 c))
theorem nb_range {B : iv_M} {c d : Int} (h : Wa B) : nb B c d = -1 ∨ (0 ≤ nb B c d ∧ nb B c d < 16) := by
  obtain ⟨h1, h2, h3, h4, _⟩ := h
  unfold nb
  split
  · next hh => right; unfold isC at hh; omega
  · left; rfl
theorem FX1_border_ok {N q : Nat} {s B : iv_M} {c d : Int} (hF : FRc s q B) (hW : Wa B) (c0 : 0 ≤ c) (c1 : c < 16) (d0 : 0 ≤ d) (d1 : d < 4) : FX1_border N s q c d = some (ed B c d) := by
  obtain ⟨f0, f1, f2, f3, f4, f5, f6, f7⟩ := hF
  unfold FX1_border
  simp (disch := omega) only [w32_id, rd_ok, Option.bind_some, f4, f5]
  have hn := nb_range (c := c) (d := d) hW
  unfold ed kdn bd
  rw [bXo_2 d0 d1]
  by_cases e : nb B c d = -1
  · rw [if_pos e, if_pos e]
    unfold FX1_border_b46 FX1_border_b67 FX1_border_b83 FX1_border_b78
    unfold FX1_border_b83
    repeat' split
    all_goals first | rfl | omega
  · rw [if_neg e, if_neg e]
    simp (disch := omega) only [w32_id, rd_ok, Option.bind_some, f4]
    unfold FX1_border_b46 FX1_border_b67 FX1_border_b83 FX1_border_b78
    unfold FX1_border_b83
    repeat' split
    all_goals first | rfl | omega
