-- ROWS OF WALKS: lists and sums
def gP (l : List (Int × Int)) (j : Int) : Int × Int := l.getD j.toNat (0, 0)
theorem gP_at {l : List (Int × Int)} {m : Nat} (h : m < l.length) : gP l m = l[m] := by
  unfold gP
  rw [Int.toNat_natCast, List.getD_eq_getElem?_getD, List.getElem?_eq_getElem h]; rfl
def kf (p : List (Int × Int)) (k j : Int) : Int := if cK (gP p j).2 = k then 1 else 0
theorem flt_su {p : List (Int × Int)} {k : Int} : ∀ m : Nat, m ≤ p.length → (((p.take m).filter (fun pc => decide (cK pc.2 = k))).length : Int) = su (kf p k) m := by
  intro m
  induction m with
  | zero => intro _; simp [su]
  | succ m ih =>
    intro hm
    have h : m < p.length := by omega
    rw [← List.take_append_getElem h, List.filter_append, List.length_append]
    show _ = su (kf p k) m + kf p k m
    rw [← ih (by omega)]
    unfold kf
    rw [gP_at h]
    by_cases e : cK (p[m]).2 = k
    · rw [if_pos e]; simp [e]
    · rw [if_neg e]; simp [e]
theorem kcn_snoc {k : Int} {A : List (List (Int × Int))} {p : List (Int × Int)} : kcn k (A ++ [p]) = kcn k A + su (kf p k) p.length := by
  have h := flt_su (p := p) (k := k) p.length (Nat.le_refl _)
  rw [List.take_length] at h
  unfold kcn
  rw [List.flatten_append, List.filter_append, List.length_append]
  rw [← h]
  simp
theorem kcn_le {k : Int} {n : Nat} : ∀ (A : List (List (Int × Int))), (∀ r ∈ A, r.length ≤ n) → 0 ≤ kcn k A ∧ kcn k A ≤ n * A.length := by
  intro A hA
  refine ⟨by unfold kcn; omega, ?_⟩
  have h1 : (A.flatten.filter (fun pc => decide (cK pc.2 = k))).length ≤ A.flatten.length := List.length_filter_le _ _
  have h2 : A.flatten.length ≤ n * A.length := by
    clear h1
    induction A with
    | nil => simp
    | cons a A ih =>
      have i1 := ih (fun r hr => hA r (List.mem_cons_of_mem _ hr))
      have i2 := hA a List.mem_cons_self
      rw [List.flatten_cons, List.length_append, List.length_cons, Nat.mul_add, Nat.mul_one]
      omega
  unfold kcn
  have h3 : ((n * A.length : Nat) : Int) = (n : Int) * A.length := by simp
  rw [← h3]
  omega
def Tot (cnt : Int) (kd fs : Int → Int) (n : Nat) (A : List (List (Int × Int))) : Prop := cnt = A.length ∧ (∀ k, 1 ≤ k → k ≤ 3 → kd k = kcn k A) ∧ (∀ r rs, A = r :: rs → ∀ j : Nat, j < n → fs j = (r.getD j (0, 0)).1) ∧ ∀ r ∈ A, r.length ≤ n
theorem Tot_snoc {n : Nat} {A : List (List (Int × Int))} {p : List (Int × Int)} {cnt cnt' : Int} {kd fs kd' fs' : Int → Int} (h : Tot cnt kd fs n A) (hp : p.length = n) (h1 : cnt' = cnt + 1) (h2 : ∀ k, 1 ≤ k → k ≤ 3 → kd' k = kd k + su (kf p k) n) (h3 : A = [] → ∀ j : Nat, j < n → fs' j = (gP p j).1) (h4 : A ≠ [] → ∀ j : Nat, j < n → fs' j = fs j) : Tot cnt' kd' fs' n (A ++ [p]) := by
  obtain ⟨a1, a2, a3, a4⟩ := h
  refine ⟨by rw [h1, a1, List.length_append]; simp, fun k k0 k1 => by rw [h2 k k0 k1, a2 k k0 k1, kcn_snoc, hp], fun r rs e j hj => ?_, fun r hr => ?_⟩
  · cases A with
    | nil =>
      have e' : p = r := by
        have : [p] = r :: rs := e
        injection this
      rw [h3 rfl j hj, ← e']
      unfold gP
      rw [Int.toNat_natCast]
    | cons a A =>
      have e' : a = r := by
        have : a :: (A ++ [p]) = r :: rs := e
        injection this
      rw [h4 (by simp) j hj, ← e']
      exact a3 a A rfl j hj
  · rcases List.mem_append.mp hr with z | z
    · exact a4 r z
    · rw [List.mem_singleton] at z; rw [z]; omega
-- parts of rows
def prt (ru : Option (List (List (Int × Int)))) (r : Nat) (P : iv_M) (l : List Int) : List (List (Int × Int)) := ((enu l 0).map (fun pc => (rowsL ru r (wkc P pc.2)).map (fun w => pc :: w))).flatten
theorem rowsL_succ {ru : Option (List (List (Int × Int)))} {r : Nat} {P : iv_M} : rowsL ru (r + 1) P = prt ru r P (okl ru P 204) := rfl
theorem enu_app : ∀ (l l2 : List Int) (p : Int), enu (l ++ l2) p = enu l p ++ enu l2 (p + l.length)
  | [], l2, p => by
    show enu l2 p = enu l2 (p + ((0 : Nat) : Int))
    rw [show p + ((0 : Nat) : Int) = p by omega]
  | c :: l, l2, p => by
    show (p, c) :: enu (l ++ l2) (p + 1) = (p, c) :: (enu l (p + 1) ++ enu l2 (p + ((l.length + 1 : Nat) : Int)))
    rw [enu_app l l2 (p + 1), show p + ((l.length + 1 : Nat) : Int) = p + 1 + l.length by omega]
theorem prt_app {ru : Option (List (List (Int × Int)))} {r : Nat} {P : iv_M} {l l2 : List Int} : ∃ X, prt ru r P (l ++ l2) = prt ru r P l ++ X := by
  unfold prt
  rw [enu_app, List.map_append, List.flatten_append]
  exact ⟨_, rfl⟩
theorem prt_snoc {ru : Option (List (List (Int × Int)))} {r : Nat} {P : iv_M} {l : List Int} {c : Int} : prt ru r P (l ++ [c]) = prt ru r P l ++ (rowsL ru r (wkc P c)).map (fun w => ((l.length : Int), c) :: w) := by
  unfold prt
  rw [enu_app, List.map_append, List.flatten_append]
  have : enu [c] (0 + (l.length : Int)) = [((l.length : Int), c)] := by
    show [(0 + (l.length : Int), c)] = _
    rw [show 0 + (l.length : Int) = (l.length : Int) by omega]
  rw [this]
  simp
theorem prt_nil {ru : Option (List (List (Int × Int)))} {r : Nat} {P : iv_M} : prt ru r P [] = [] := rfl
def extR (pre : List (Int × Int)) (R : List (List (Int × Int))) : List (List (Int × Int)) := R.map (fun w => pre ++ w)
theorem extR_app {pre : List (Int × Int)} {R S : List (List (Int × Int))} : extR pre (R ++ S) = extR pre R ++ extR pre S := List.map_append
theorem extR_cons {pre : List (Int × Int)} {pc : Int × Int} {R : List (List (Int × Int))} : extR pre (R.map (fun w => pc :: w)) = extR (pre ++ [pc]) R := by
  unfold extR
  rw [List.map_map]
  congr 1
  funext w
  simp
theorem extR_nil {R : List (List (Int × Int))} : extR [] R = R := by
  unfold extR
  simp
theorem extR_len {pre : List (Int × Int)} {R : List (List (Int × Int))} : (extR pre R).length = R.length := by unfold extR; simp
theorem prt_len {ru : Option (List (List (Int × Int)))} {r : Nat} {P : iv_M} {b : Nat} (hb : ∀ c, (rowsL ru r (wkc P c)).length ≤ b) : ∀ (l : List Int) (p : Int), (((enu l p).map (fun pc => (rowsL ru r (wkc P pc.2)).map (fun w => pc :: w))).flatten).length ≤ b * l.length
  | [], p => by show 0 ≤ _; omega
  | c :: l, p => by
    show (((rowsL ru r (wkc P c)).map (fun w => (p, c) :: w)) ++ ((enu l (p + 1)).map (fun pc => (rowsL ru r (wkc P pc.2)).map (fun w => pc :: w))).flatten).length ≤ b * (l.length + 1)
    rw [List.length_append, List.length_map, Nat.mul_add, Nat.mul_one]
    have h1 := prt_len hb l (p + 1)
    have h2 := hb c
    omega
theorem rowsL_len {ru : Option (List (List (Int × Int)))} : ∀ (r : Nat) (P : iv_M), (rowsL ru r P).length ≤ 126 ^ r
  | 0, P => by
    unfold rowsL
    split <;> simp
  | r + 1, P => by
    have h := prt_len (ru := ru) (r := r) (P := P) (b := 126 ^ r) (fun c => rowsL_len r _) (okl ru P 204) 0
    have hl := okl_stc ru P 204
    rw [stc_204] at hl
    have : 126 ^ r * (okl ru P 204).length ≤ 126 ^ r * 126 := Nat.mul_le_mul_left _ hl
    rw [Nat.pow_succ]
    exact Nat.le_trans h this
-- who woke
theorem wkn_all {B : iv_M} : ∀ n, wkn B n = alln (fun i => decide (B 116 (B 130 i) = B 131 i)) n
  | 0 => rfl
  | n + 1 => by
    show (wkn B n && _) = (alln _ n && _)
    rw [wkn_all n]
theorem isAsTheyWoke_ok {N q : Nat} {x B P : iv_M} (hN : 100 ≤ N) (hq : q = 9 ∨ q = 31) (hF : FRc x 82 P) (hW : Wf P) (h6 : HR6 x q B) (h10 : 0 ≤ B 114 10 ∧ B 114 10 ≤ 8) (e2 : P 114 2 = B 114 2) (hw : ∀ j, 0 ≤ j → j < B 114 10 → (0 ≤ B 130 j ∧ B 130 j < B 114 2) ∧ 0 ≤ B 131 j ∧ B 131 j < 16) (e30 : P 130 = B 130) (e31 : P 131 = B 131) : FX10_isAsTheyWoke N x 81 q = some (if wkn P (B 114 10).toNat = true then 1 else 0) := by
  have hQ2 := HQ_rows (q := q) (by rcases hq with z | z; exact Or.inl z; exact Or.inr (Or.inl z))
  have h12 := hW.1.2.2.2.2.2.1
  have hl : ((sh (q + 20 + 1)).2 : Int) = 8 := by show ((sh (q + 21)).2 : Int) = 8; rw [hQ2.2.2.2.2.2]; rfl
  have st : ∀ (n i : Nat), (i : Int) < B 114 10 → FX10_isAsTheyWoke_l2 N x 81 q (fun (_ : Unit) => (some 1)) (n + 1) i = if P 116 (P 130 i) = P 131 i then FX10_isAsTheyWoke_l2 N x 81 q (fun (_ : Unit) => (some 1)) n ((i : Int) + 1) else some 0 := fun n i hi => by
    obtain ⟨⟨w1, w2⟩, w3, w4⟩ := hw i (by omega) hi
    have hit : x (q + 21) i = 16 * B 130 i + B 131 i := h6.2.2.2.2.2 i (by omega) hi
    obtain ⟨c1, c2⟩ := hF.cell hW w1 (by rw [e2]; exact w2)
    rw [FX10_isAsTheyWoke_l2, h6.2.2.2.2.1, if_neg (by omega), hl, rd_ok (by omega) (by omega), Option.bind_some]
    show ((rd x 83 12 (sr32 (w32 (x (q + 21) i)) 4)).bind fun v_1647 => (if v_1647 = (bAn (w32 (x (q + 21) i)) 15) then (FX10_isAsTheyWoke_l2 N x 81 q (fun (_ : Unit) => (some 1)) n (w32 ((i : Int) + 1))) else (some 0))) = _
    have c1' : x 83 (B 130 i) = P 116 (B 130 i) := c1
    rw [hit, w32_id (x := 16 * B 130 i + B 131 i) (by omega) (by omega), sr32_4, bAn_15, show (16 * B 130 i + B 131 i) / 16 = B 130 i by omega, show (16 * B 130 i + B 131 i) % 16 = B 131 i by omega, rd_ok w1 (by omega), Option.bind_some, c1', w32_id (by omega) (by omega), e30, e31]
  unfold FX10_isAsTheyWoke
  rw [wkn_all]
  rw [loop_all (L := FX10_isAsTheyWoke_l2 N x 81 q (fun (_ : Unit) => (some 1))) (hi := B 114 10) (N := N) (fun i => decide (P 116 (P 130 i) = P 131 i)) (Y := some 1) (Z := some 0) h10.1 (fun n => by rw [FX10_isAsTheyWoke_l2, h6.2.2.2.2.1, if_pos (by omega)]) (fun n i hi hp => by rw [st n i hi, if_pos (of_decide_eq_true hp)]) (fun n i hi hp => by rw [st (n + 1) i hi, if_neg (of_decide_eq_false hp)]) (by omega)]
  split <;> rfl
theorem isAsWoken_ok {N : Nat} {x P : iv_M} (hN : 100 ≤ N) (hE : Eb P x) (h10 : 0 ≤ P 114 10 ∧ P 114 10 ≤ 8) (h12 : P 114 2 ≤ 12) (hw : ∀ j, 0 ≤ j → j < P 114 10 → 0 ≤ P 130 j ∧ P 130 j < P 114 2) : FX12_isAsWoken N x 113 = some (if wkn P (P 114 10).toNat = true then 1 else 0) := by
  have e4 := hE 114 (by omega) (by omega)
  have e16 := hE 116 (by omega) (by omega)
  have e30 := hE 130 (by omega) (by omega)
  have e31 := hE 131 (by omega) (by omega)
  have lp := loop_fn (L := FX12_isAsWoken_l4 N x 113 (fun (x4263_1 : Int) => (if x4263_1 = 0 ∨ x4263_1 = 1 then some x4263_1 else none))) (k := (fun (x4263_1 : Int) => (if x4263_1 = 0 ∨ x4263_1 = 1 then some x4263_1 else none))) (hi := P 114 10) (N := N) (fun i => if wkn P i = true then (1 : Int) else 0) h10.1 (fun n => by
      rw [FX12_isAsWoken_l4]
      simp only [Nat.reduceAdd]
      rw [rd_ok (by omega) (by omega), Option.bind_some, e4, if_pos (by omega)]) (fun n i hi => by
      have hi1 : wkn P (i + 1) = (wkn P i && decide (P 116 (P 130 i) = P 131 i)) := rfl
      obtain ⟨w1, w2⟩ := hw i (by omega) hi
      rw [FX12_isAsWoken_l4]
      unfold FX12_isAsWoken_b43 FX12_isAsWoken_b44
      simp only [Nat.reduceAdd]
      rw [rd_ok (by omega) (by omega), Option.bind_some, e4, if_neg (by omega), w32_id (x := (i : Int) + 1) (by omega) (by omega)]
      by_cases e1 : wkn P i = true
      · rw [if_pos e1, if_neg (by omega), rd_ok (by omega) (by omega), Option.bind_some, e30, rd_ok w1 (by omega), Option.bind_some, rd_ok (by omega) (by omega), Option.bind_some, e16, e31]
        by_cases e2 : P 116 (P 130 i) = P 131 i
        · rw [if_pos e2, if_pos (show wkn P (i + 1) = true by rw [hi1, e1]; simp [e2])]
        · rw [if_neg e2, if_neg (show ¬ wkn P (i + 1) = true by rw [hi1, e1]; simp [e2])]
      · rw [if_neg e1, if_pos rfl, if_neg (show ¬ wkn P (i + 1) = true by rw [hi1]; simp [e1])]) (by omega)
  have lp' : FX12_isAsWoken_l4 N x 113 (fun (x4263_1 : Int) => (if x4263_1 = 0 ∨ x4263_1 = 1 then some x4263_1 else none)) N 1 0 = (fun (x4263_1 : Int) => (if x4263_1 = 0 ∨ x4263_1 = 1 then some x4263_1 else none)) (if wkn P (P 114 10).toNat = true then (1 : Int) else 0) := lp
  unfold FX12_isAsWoken
  rw [lp']
  by_cases e : wkn P (P 114 10).toNat = true
  · rw [if_pos e]; rfl
  · rw [if_neg e]; rfl
