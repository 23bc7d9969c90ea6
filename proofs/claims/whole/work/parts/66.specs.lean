-- WHAT THE DEAR QUESTIONS ASK: the fewest nights, rows of walks; and what holds between two calls
def invf (f : Int → Int) (c : Int) : Nat → Int
  | 0 => -1
  | n + 1 => if f n = c then (n : Int) else invf f c n
/-- the block with other places and turns -/
def lay (B : iv_M) (f g : Int → Int) : iv_M := fun a i => if a = 116 ∧ 0 ≤ i ∧ i < B 114 2 then f i else if a = 117 ∧ 0 ≤ i ∧ i < B 114 2 then g i else if a = 121 ∧ 0 ≤ i ∧ i < 16 then invf f i (B 114 2).toNat else B a i
def un4 (P r : Int) : Int := P / 2 ^ (4 * r.toNat) % 16
def un2 (P r : Int) : Int := P / 2 ^ (2 * r.toNat) % 4
def layk (B : iv_M) (P Q : Int) : iv_M := lay B (un4 P) (un2 Q)
abbrev Nd : Type := Int × Int × Int × Int
def keyB (B : iv_M) : Int × Int := (pkd 4 (B 116) (B 114 2).toNat, pkd 2 (B 117) (B 114 2).toNat)
def wkc (B : iv_M) (c : Int) : iv_M := wlk B (cK c) (cR c) (cO c)
def trc (L : List Nd) : Nat → Nat → List Int
  | 0, _ => []
  | n + 1, i => if i = 0 then [] else trc L n (L.getD i (0, 0, 0, 0)).2.2.1.toNat ++ [(L.getD i (0, 0, 0, 0)).2.2.2]
def knn (L : List Nd) (k : Int × Int) : Bool := L.any (fun nd => decide (nd.1 = k.1) && decide (nd.2.1 = k.2))
def expd (W : Int × Int) (i : Nat) (Bi : iv_M) : List Int → List Nd → (Int × List Int) ⊕ List Nd
  | [], L => .inr L
  | c :: cs, L => if keyB (wkc Bi c) = W then .inl (((trc L L.length i).length : Int) + 1, trc L L.length i ++ [c]) else if knn L (keyB (wkc Bi c)) = true then expd W i Bi cs L else if 1500 ≤ L.length then .inl (-3, []) else expd W i Bi cs (L ++ [((keyB (wkc Bi c)).1, (keyB (wkc Bi c)).2, (i : Int), c)])
def bfs (ru : Option (List (List (Int × Int)))) (B : iv_M) (W : Int × Int) : Nat → Nat → List Nd → Int × List Int
  | 0, _, _ => (-2, [])
  | n + 1, i, L => if i < L.length then (match expd W i (layk B (L.getD i (0, 0, 0, 0)).1 (L.getD i (0, 0, 0, 0)).2.1) (okl ru (layk B (L.getD i (0, 0, 0, 0)).1 (L.getD i (0, 0, 0, 0)).2.1) 204) L with
    | .inl r => r
    | .inr L' => bfs ru B W n (i + 1) L') else (-2, [])
def srch (ru : Option (List (List (Int × Int)))) (B : iv_M) (k : Int) : Int × List Int := if keyB B = (pkd 4 (dC B k) (B 114 2).toNat, pkd 2 (dT B k) (B 114 2).toNat) then (0, []) else bfs ru B (pkd 4 (dC B k) (B 114 2).toNat, pkd 2 (dT B k) (B 114 2).toNat) 1501 0 [((keyB B).1, (keyB B).2, -1, -1)]
def wkn (B : iv_M) : Nat → Bool
  | 0 => true
  | n + 1 => wkn B n && decide (B 116 (B 130 n) = B 131 n)
def enu : List Int → Int → List (Int × Int)
  | [], _ => []
  | c :: cs, p => (p, c) :: enu cs (p + 1)
def rowsL (ru : Option (List (List (Int × Int)))) : Nat → iv_M → List (List (Int × Int))
  | 0, B => if wkn B (B 114 10).toNat = true then [[]] else []
  | n + 1, B => ((enu (okl ru B 204) 0).map (fun pc => (rowsL ru n (wkc B pc.2)).map (fun r => pc :: r))).flatten
def kcn (k : Int) (R : List (List (Int × Int))) : Int := ((R.flatten.filter (fun pc => decide (cK pc.2 = k))).length : Int)
def SOK (s : iv_M) : Prop := ∀ ru, RUO s (s 114 12) ru → (0 ≤ s 64 10 ∧ s 64 10 < 4 ∧ s 114 11 / 2 ^ (s 64 10).toNat % 2 = 1) ∧ s 64 11 = (srch ru s (s 64 10)).1 ∧ ∀ j : Nat, j < (srch ru s (s 64 10)).2.length → s 80 j = wcd ((srch ru s (s 64 10)).2.getD j 0)
def ROK (s : iv_M) : Prop := ∀ ru, RUO s (s 114 12) ru → (0 ≤ s 81 8 ∧ s 81 8 ≤ 3) ∧ s 97 0 = (rowsL ru (s 81 8).toNat s).length ∧ (∀ k, 1 ≤ k → k ≤ 3 → s 97 k = kcn k (rowsL ru (s 81 8).toNat s)) ∧ ∀ r rs, rowsL ru (s 81 8).toNat s = r :: rs → ∀ j : Nat, j < (s 81 8).toNat → s 96 j = (r.getD j (0, 0)).1
-- what holds between two calls
def now (s : iv_M) : Nat := (s 0 4).toNat
def NowS (s : iv_M) : Prop := (s 0 4 = 9 ∧ s 0 5 = 31) ∨ (s 0 4 = 31 ∧ s 0 5 = 9)
def Tp (s : iv_M) : Prop := s 0 1 = s 113 28 ∧ 0 ≤ s 0 1 ∧ s 0 1 ≤ 400 ∧ (∀ i, 0 ≤ i → i < s 0 1 → s 1 i = s 139 i) ∧ ∀ i, 0 ≤ i → i < s 0 1 → -128 ≤ s 1 i ∧ s 1 i < 128
def Rl (s : iv_M) : Prop := s 0 3 = s 113 32 ∧ 0 ≤ s 0 3 ∧ s 0 3 ≤ 6 ∧ s 114 12 < s 0 3 ∧ ∀ f, 0 ≤ f → f < s 0 3 → ∃ R, RUL s f R
def ofs (a : Nat) : Int := if a = 114 then 0 else if a = 115 then 14 else if a = 116 then 62 else if a = 117 then 74 else if a = 118 then 86 else if a = 119 then 98 else if a = 120 then 102 else if a = 121 then 108 else if a = 122 then 124 else if a = 123 then 604 else if a = 124 then 700 else if a = 125 then 710 else if a = 126 then 720 else if a = 127 then 730 else if a = 128 then 742 else if a = 129 then 754 else if a = 130 then 766 else 774
def ln (a : Nat) : Int := if a = 114 then 14 else if a = 115 then 48 else if a = 116 then 12 else if a = 117 then 12 else if a = 118 then 12 else if a = 119 then 4 else if a = 120 then 6 else if a = 121 then 16 else if a = 122 then 480 else if a = 123 then 96 else if a = 124 then 10 else if a = 125 then 10 else if a = 126 then 10 else if a = 127 then 12 else if a = 128 then 12 else if a = 129 then 12 else 8
/-- beyond their ends the block's rows hold nothing -/
def OZ (s : iv_M) : Prop := ∀ a : Nat, 114 ≤ a → a ≤ 131 → ∀ i : Int, ¬ (0 ≤ i ∧ i < ln a) → s a i = 0
/-- an image of the reference, as a block -/
def img (s : iv_M) (k : Int) : iv_M := fun a i => if 0 ≤ i ∧ i < ln a then s 172 (860 * k + ofs a + i) else 0
def Im1 (t : Int) (s : iv_M) (k : Int) : Prop := (s 173 k = 0 ∧ s 53 k = -1) ∨ (s 173 k = 1 ∧ ∃ q : Nat, s 53 k = q ∧ 174 ≤ q ∧ HQ q ∧ HR s q (img s k) ∧ WH t (img s k) ∧ img s k 114 12 < s 0 3 ∧ (q : Int) < 174 + 22 * (s 173 0 + s 173 1 + s 173 2 + s 173 3) ∧ ∀ k', 0 ≤ k' → k' < 4 → k' ≠ k → s 53 k' ≠ q)
def Im (t : Int) (s : iv_M) : Prop := ∀ k, 0 ≤ k → k < 4 → Im1 t s k
def MeS (s : iv_M) : Prop := -1 ≤ s 64 9 ∧ s 64 9 ≤ s 0 15 ∧ (s 64 9 = s 0 15 → SOK s)
def MeR (s : iv_M) : Prop := -1 ≤ s 81 7 ∧ s 81 7 ≤ s 0 15 ∧ (s 81 7 = s 0 15 → ROK s)
def Mk (t : Int) (s : iv_M) : Prop := (0 ≤ s 0 15 ∧ s 0 15 ≤ 20 * t) ∧ s 113 37 = 13 ∧ (0 ≤ s 113 56 ∧ s 113 56 ≤ t) ∧ ∀ i, 0 ≤ i → i < 4096 → s 153 i ≤ s 113 56
def Inv (t : Int) (s : iv_M) : Prop := NowS s ∧ HR s (now s) s ∧ WH t s ∧ Tp s ∧ Rl s ∧ Im t s ∧ MeS s ∧ MeR s ∧ Mk t s ∧ OZ s
theorem now_HQ {s : iv_M} (h : NowS s) : HQ (now s) ∧ (now s = 9 ∨ now s = 31) ∧ s 0 4 = now s := by
  unfold now HQ
  rcases h with ⟨a, b⟩ | ⟨a, b⟩ <;> rw [a]
  · exact ⟨Or.inl rfl, Or.inl rfl, rfl⟩
  · exact ⟨Or.inr (Or.inl rfl), Or.inr rfl, rfl⟩
theorem Rl_RUO {s : iv_M} (h : Rl s) (h2 : -1 ≤ s 114 12) : ∃ ru, RUO s (s 114 12) ru := by
  obtain ⟨a1, a2, a3, a4, a5⟩ := h
  by_cases e : s 114 12 = -1
  · exact ⟨none, Or.inl ⟨e, rfl⟩⟩
  · obtain ⟨R, hR⟩ := a5 (s 114 12) (by omega) a4
    exact ⟨some R, Or.inr ⟨by omega, by omega, R, rfl, hR⟩⟩
