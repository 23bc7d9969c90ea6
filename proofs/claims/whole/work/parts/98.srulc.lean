-- RULE: a whole test
theorem test_loop {N : Nat} {kx : iv_M → Option (Int × iv_M)} {b : Int → Int} {L sl cl : Int} {s0 r0 : iv_M} {Pc Q : List (Int × Int)} (hN : 1000 ≤ N) (hT : TX b L) : ∀ (m f : Nat) (O : List Int) (c r : iv_M) (p pr x stg cmp cnt : Int) (A : List (Int × Int)) (X : List Int) (w : Int), (L - p).toNat ≤ m → m + 2 < f → JC N b L sl cl r0 Pc Q O → okS 0 O = true → ((w = 1 ∧ X = [] ∧ stg = 1 ∧ JS b L sl cl s0 r0 Pc Q O c r p pr x stg cmp cnt A [] [] (tyO O) 1) ∨ (w = 0 ∧ JS b L sl cl s0 r0 Pc Q O c r p pr x stg cmp cnt A X [] (true :: tyO O) 0 ∧ endF stg (ark (sg b L (bl b L p))) ∧ ∀ k, k ∈ X → 4 ≤ rnk k)) → ∃ r', FX12_test_l9 N 113 (fun (s_2655 : iv_M) => (FX12_test_b202 N s_2655)) f r w 1 = some r' ∧ ((∃ c' p' x' stg' cmp' cnt' A' X', CRun N kx c x c' x' ∧ p ≤ p' ∧ JC N b L sl cl r0 Pc Q [] ∧ JS b L sl cl s0 r0 Pc Q [] c' r' p' (bl b L p') x' stg' cmp' cnt' A' X' [] [true] 0 ∧ Prt 1 X' [] ∧ endF stg' (ark (sg b L (bl b L p'))) ∧ isw b (bl b L p') (el b L (bl b L p')) wAnd = false ∧ isw b (bl b L p') (el b L (bl b L p')) wOr = false) ∨ JF N kx b L sl s0 r0 c x r') := by
  have stop : ∀ (f : Nat) (z : iv_M) (w o F q : Int), RT z b L q F → F ≠ 0 → FX12_test_l9 N 113 (fun (s_2655 : iv_M) => (FX12_test_b202 N s_2655)) (f + 1) z w o = some z := fun f z w o F q hR hF => by
    rw [FX12_test_l9]
    by_cases u : o = 0
    · rw [if_pos u]; rfl
    · rw [if_neg u, if_neg (by rw [hR.2.2.1]; exact hF)]; rfl
  have badr : ∀ (f : Nat) (c z : iv_M) (x w o : Int), JF N kx b L sl s0 r0 c x z → FX12_test_l9 N 113 (fun (s_2655 : iv_M) => (FX12_test_b202 N s_2655)) (f + 1) z w o = some z := fun f c z x w o h => by
    obtain ⟨F, f1, f2, f3, f4, q, q0, q1, f5⟩ := h
    exact stop f z w o F q f5 (by omega)
  have fin : ∀ (f : Nat) (z : iv_M) (w : Int), FX12_test_l9 N 113 (fun (s_2655 : iv_M) => (FX12_test_b202 N s_2655)) (f + 1) z w 0 = some z := fun f z w => by
    rw [FX12_test_l9, if_pos rfl]; rfl
  intro m
  induction m with
  | zero =>
    intro f O c r p pr x stg cmp cnt A X w hm hf hC hok h
    obtain ⟨f', rfl⟩ : ∃ f', f = f' + 1 + 1 + 1 := ⟨f - 3, by omega⟩
    rcases h with ⟨rfl, rfl, rfl, h⟩ | ⟨rfl, h, he, hX⟩
    · obtain ⟨v, r1, a1, a2⟩ := fact_sim (kx := kx) hC hok h
      have hR := h.2.1.1
      have hx := h.2.2.1
      have st : FX12_test_l9 N 113 (fun (s_2655 : iv_M) => (FX12_test_b202 N s_2655)) (f' + 1 + 1 + 1) r 1 1 = if v = 0 then FX12_test_l9 N 113 (fun (s_2655 : iv_M) => (FX12_test_b202 N s_2655)) (f' + 1 + 1) r1 1 1 else FX12_test_l9 N 113 (fun (s_2655 : iv_M) => (FX12_test_b202 N s_2655)) (f' + 1 + 1) r1 0 1 := by
        rw [FX12_test_l9, if_neg (by decide), hR.2.2.1, if_pos rfl, if_neg (by decide), a1, Option.bind_some]
        rfl
      rw [st]
      rcases a2 with ⟨u, O', c', p', x', y1, y2, y3, y4, y5⟩ | ⟨u, c', p', x', cnt', A', X', y1, y2, y3⟩ | w
      · have := y5.2.2.1; omega
      · have := y3.1.2.2.1; omega
      · refine ⟨r1, ?_, Or.inr w⟩
        split <;> exact badr _ _ _ _ _ _ w
    · obtain ⟨r1, w1, o1, a1, a2⟩ := behind_sim (f := f' + 1 + 1) (kx := kx) (kt := fun (s_2655 : iv_M) => (FX12_test_b202 N s_2655)) hC hok h he hX
      have hx := h.2.2.1
      rw [a1]
      rcases a2 with ⟨u, v, O', c', p', x', A', y1, y2, y3, y4, y5⟩ | ⟨u, v, O', c', p', x', A', y1, y2, y3, y4, y5⟩ | ⟨u, X', y1, y2, y3, y4, y5⟩ | w
      · have := y5.2.2.1; omega
      · have := y5.2.2.1; omega
      · rw [u]
        exact ⟨r1, fin _ _ _, Or.inl ⟨c, p, x, stg, cmp, cnt, A, X', CRun.refl, by omega, y1, y2, y3, he, y4, y5⟩⟩
      · exact ⟨r1, badr _ _ _ _ _ _ w, Or.inr w⟩
  | succ m ih =>
    intro f O c r p pr x stg cmp cnt A X w hm hf hC hok h
    obtain ⟨f', rfl⟩ : ∃ f', f = f' + 1 + 1 := ⟨f - 2, by omega⟩
    rcases h with ⟨rfl, rfl, rfl, h⟩ | ⟨rfl, h, he, hX⟩
    · obtain ⟨v, r1, a1, a2⟩ := fact_sim (kx := kx) hC hok h
      have hR := h.2.1.1
      have hx := h.2.2.1
      have st : FX12_test_l9 N 113 (fun (s_2655 : iv_M) => (FX12_test_b202 N s_2655)) (f' + 1 + 1) r 1 1 = if v = 0 then FX12_test_l9 N 113 (fun (s_2655 : iv_M) => (FX12_test_b202 N s_2655)) (f' + 1) r1 1 1 else FX12_test_l9 N 113 (fun (s_2655 : iv_M) => (FX12_test_b202 N s_2655)) (f' + 1) r1 0 1 := by
        rw [FX12_test_l9, if_neg (by decide), hR.2.2.1, if_pos rfl, if_neg (by decide), a1, Option.bind_some]
        rfl
      rw [st]
      rcases a2 with ⟨u, O', c', p', x', y1, y2, y3, y4, y5⟩ | ⟨u, c', p', x', cnt', A', X', y1, y2, y3, y4, y5, y6⟩ | w
      · rw [if_pos u]
        obtain ⟨r', i1, i2⟩ := ih (f' + 1) O' c' r1 p' p' x' 1 0 cnt A [] 1 (by omega) (by omega) y3 y4 (Or.inl ⟨rfl, rfl, rfl, y5⟩)
        refine ⟨r', i1, ?_⟩
        rcases i2 with ⟨c2, p2, x2, g2, m2, n2, A2, X2, z1, z2, z3⟩ | w
        · exact Or.inl ⟨c2, p2, x2, g2, m2, n2, A2, X2, y1.trans z1, by omega, z3⟩
        · exact Or.inr (JF_run y1 w)
      · rw [if_neg (by omega)]
        obtain ⟨r', i1, i2⟩ := ih (f' + 1) O c' r1 p' (bl b L p') x' 4 1 cnt' A' X' 0 (by omega) (by omega) hC hok (Or.inr ⟨rfl, y3, Or.inr ⟨rfl, y6⟩, y5⟩)
        refine ⟨r', i1, ?_⟩
        rcases i2 with ⟨c2, p2, x2, g2, m2, n2, A2, X2, z1, z2, z3⟩ | w
        · exact Or.inl ⟨c2, p2, x2, g2, m2, n2, A2, X2, y1.trans z1, by omega, z3⟩
        · exact Or.inr (JF_run y1 w)
      · refine ⟨r1, ?_, Or.inr w⟩
        split <;> exact badr _ _ _ _ _ _ w
    · obtain ⟨r1, w1, o1, a1, a2⟩ := behind_sim (f := f' + 1) (kx := kx) (kt := fun (s_2655 : iv_M) => (FX12_test_b202 N s_2655)) hC hok h he hX
      have hx := h.2.2.1
      rw [a1]
      rcases a2 with ⟨u, v, O', c', p', x', A', y1, y2, y3, y4, y5⟩ | ⟨u, v, O', c', p', x', A', y1, y2, y3, y4, y5⟩ | ⟨u, X', y1, y2, y3, y4, y5⟩ | w
      · rw [u, v]
        obtain ⟨r', i1, i2⟩ := ih (f' + 1) O' c' r1 p' p' x' 1 cmp cnt A' [] 1 (by omega) (by omega) y3 y4 (Or.inl ⟨rfl, rfl, rfl, y5⟩)
        refine ⟨r', i1, ?_⟩
        rcases i2 with ⟨c2, p2, x2, g2, m2, n2, A2, X2, z1, z2, z3⟩ | w
        · exact Or.inl ⟨c2, p2, x2, g2, m2, n2, A2, X2, y1.trans z1, by omega, z3⟩
        · exact Or.inr (JF_run y1 w)
      · rw [u, v]
        obtain ⟨r', i1, i2⟩ := ih (f' + 1) O' c' r1 p' p' x' 5 cmp cnt A' [] 0 (by omega) (by omega) y3 y4 (Or.inr ⟨rfl, y5, Or.inl rfl, fun k hk => by cases hk⟩)
        refine ⟨r', i1, ?_⟩
        rcases i2 with ⟨c2, p2, x2, g2, m2, n2, A2, X2, z1, z2, z3⟩ | w
        · exact Or.inl ⟨c2, p2, x2, g2, m2, n2, A2, X2, y1.trans z1, by omega, z3⟩
        · exact Or.inr (JF_run y1 w)
      · rw [u]
        exact ⟨r1, fin _ _ _, Or.inl ⟨c, p, x, stg, cmp, cnt, A, X', CRun.refl, by omega, y1, y2, y3, he, y4, y5⟩⟩
      · exact ⟨r1, badr _ _ _ _ _ _ w, Or.inr w⟩
-- clauses
def T34 (r : iv_M) (sl : Int) : Int → Int → List (List (Int × Int)) → Prop
  | _, _, [] => True
  | n, p, c :: cs => r 143 (12 * sl + n) = p ∧ r 144 (12 * sl + n) = p + c.length ∧ T34 r sl (n + 1) (p + c.length) cs
theorem T34_snoc {r : iv_M} {sl : Int} {C : List (Int × Int)} : ∀ (R : List (List (Int × Int))) (n p : Int), T34 r sl n p (R ++ [C]) ↔ T34 r sl n p R ∧ r 143 (12 * sl + (n + R.length)) = p + R.flatten.length ∧ r 144 (12 * sl + (n + R.length)) = p + R.flatten.length + C.length := by
  intro R
  induction R with
  | nil =>
    intro n p
    show (r 143 (12 * sl + n) = p ∧ r 144 (12 * sl + n) = p + C.length ∧ True) ↔ True ∧ r 143 (12 * sl + (n + ((0 : Nat) : Int))) = p + ((0 : Nat) : Int) ∧ r 144 (12 * sl + (n + ((0 : Nat) : Int))) = p + ((0 : Nat) : Int) + C.length
    rw [show n + ((0 : Nat) : Int) = n by omega, show p + ((0 : Nat) : Int) = p by omega]
    exact ⟨fun h => ⟨trivial, h.1, h.2.1⟩, fun h => ⟨h.2.1, h.2.2, trivial⟩⟩
  | cons c cs ih =>
    intro n p
    have e1 : n + ((c :: cs).length : Int) = n + 1 + (cs.length : Int) := by simp; omega
    have e2 : p + ((c :: cs).flatten.length : Int) = p + (c.length : Int) + (cs.flatten.length : Int) := by rw [List.flatten_cons, List.length_append]; omega
    rw [e1, e2]
    show (r 143 (12 * sl + n) = p ∧ r 144 (12 * sl + n) = p + c.length ∧ T34 r sl (n + 1) (p + c.length) (cs ++ [C])) ↔ (r 143 (12 * sl + n) = p ∧ r 144 (12 * sl + n) = p + c.length ∧ T34 r sl (n + 1) (p + c.length) cs) ∧ _
    rw [ih]
    exact ⟨fun h => ⟨⟨h.1, h.2.1, h.2.2.1⟩, h.2.2.2⟩, fun h => ⟨h.1.1, h.1.2.1, h.1.2.2, h.2⟩⟩
theorem T34_ext {r r' : iv_M} {sl : Int} : ∀ (R : List (List (Int × Int))) (n p : Int), 0 ≤ n → (∀ j, 12 * sl + n ≤ j → j < 12 * sl + n + R.length → r' 143 j = r 143 j ∧ r' 144 j = r 144 j) → T34 r sl n p R → T34 r' sl n p R := by
  intro R
  induction R with
  | nil => intro n p _ _ _; trivial
  | cons c cs ih =>
    intro n p n0 h hT
    have hl : ((c :: cs).length : Int) = (cs.length : Int) + 1 := by simp
    obtain ⟨a, b⟩ := h (12 * sl + n) (by omega) (by omega)
    exact ⟨by rw [a]; exact hT.1, by rw [b]; exact hT.2.1, ih (n + 1) _ (by omega) (fun j j0 j1 => h j (by omega) (by omega)) hT.2.2⟩
theorem T34_RC {r : iv_M} {sl : Int} : ∀ (R : List (List (Int × Int))) (n p : Int), T34 r sl n p R → EN r sl p R.flatten → RC r sl n p R := by
  intro R
  induction R with
  | nil => intro n p _ _; trivial
  | cons c cs ih =>
    intro n p h1 h2
    rw [List.flatten_cons, EN_app] at h2
    exact ⟨h1.1, h1.2.1, h2.1, ih (n + 1) _ h1.2.2 h2.2⟩
theorem rco_snoc {R : List (List (Int × Int))} {C : List (Int × Int)} : rco (R ++ [C]) = rco R ++ C ++ (if (R.length : Int) + 1 ≤ 1 then [] else [(11, 0)]) := by
  cases R with
  | nil => show C ++ [] = [] ++ C ++ (if ((0 : Nat) : Int) + 1 ≤ 1 then [] else [(11, 0)]); rw [if_pos (by omega)]; simp
  | cons c cs =>
    rw [if_neg (by simp; omega)]
    show c ++ ((cs ++ [C]).map (fun d => d ++ [((11 : Int), (0 : Int))])).flatten = c ++ (cs.map (fun d => d ++ [((11 : Int), (0 : Int))])).flatten ++ C ++ [(11, 0)]
    rw [List.map_append, List.flatten_append]
    simp
theorem rco_len {R : List (List (Int × Int))} : (rco R).length ≤ R.flatten.length + R.length := by
  cases R with
  | nil => exact Nat.le_refl 0
  | cons c cs =>
    show (c ++ (cs.map (fun d => d ++ [((11 : Int), (0 : Int))])).flatten).length ≤ _
    rw [List.length_append, List.flatten_cons, List.length_append]
    have : ∀ l : List (List (Int × Int)), ((l.map (fun d => d ++ [((11 : Int), (0 : Int))])).flatten).length = l.flatten.length + l.length := by
      intro l
      induction l with
      | nil => rfl
      | cons d ds ih =>
        rw [List.map_cons, List.flatten_cons, List.length_append, ih, List.flatten_cons, List.length_append]
        simp; omega
    rw [this]; simp; omega
theorem rco_nvs {R : List (List (Int × Int))} : nvs (rco R) = nvs R.flatten := by
  cases R with
  | nil => rfl
  | cons c cs =>
    show nvs (c ++ (cs.map (fun d => d ++ [((11 : Int), (0 : Int))])).flatten) = _
    rw [nvs_app, List.flatten_cons, nvs_app]
    have : ∀ l : List (List (Int × Int)), nvs ((l.map (fun d => d ++ [((11 : Int), (0 : Int))])).flatten) = nvs l.flatten := by
      intro l
      induction l with
      | nil => rfl
      | cons d ds ih =>
        rw [List.map_cons, List.flatten_cons, nvs_app, ih, List.flatten_cons, nvs_app, nvs_app]
        have : nvs [((11 : Int), (0 : Int))] = 0 := by decide
        omega
    rw [this]
