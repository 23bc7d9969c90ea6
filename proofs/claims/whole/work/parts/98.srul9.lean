-- RULE: what is opened and answered
def okS : Int → List Int → Bool
  | _, [] => true
  | m, w :: o => if w = 12 then okS 0 o else if w = 11 then decide (m ≤ 1) && okS 2 o else if w = 10 then decide (m ≤ 0) && okS 1 o else if w = 9 then decide (m ≤ 0) && okS 0 o else false
def tyO : List Int → List Bool
  | [] => []
  | k :: ks => if k = 10 ∨ k = 11 then true :: tyO ks else tyO ks
theorem okS_len : ∀ (O : List Int) (m : Int), 0 ≤ m → m ≤ 2 → okS m O = true → (O.length : Int) ≤ n9 O + 3 * n12 O + (2 - m) ∧ ∀ k, k ∈ O → 9 ≤ k ∧ k ≤ 12 := by
  intro O
  induction O with
  | nil => intro m m0 m1 _; exact ⟨by show (0 : Int) ≤ 0 + 3 * 0 + (2 - m); omega, fun k hk => by cases hk⟩
  | cons w o ih =>
    intro m m0 m1 h
    have hl : ((w :: o).length : Int) = (o.length : Int) + 1 := by simp
    have e9 : n9 (w :: o) = (if w = 9 then 1 else 0) + n9 o := rfl
    have e12 : n12 (w :: o) = (if w = 12 then 1 else 0) + n12 o := rfl
    unfold okS at h
    rw [hl, e9, e12]
    by_cases a : w = 12
    · rw [if_pos a] at h
      obtain ⟨i1, i2⟩ := ih 0 (by omega) (by omega) h
      rw [if_pos a, if_neg (by omega)]
      exact ⟨by omega, fun k hk => by rw [List.mem_cons] at hk; rcases hk with u | u; omega; exact i2 k u⟩
    rw [if_neg a] at h ⊢
    by_cases c : w = 11
    · rw [if_pos c, Bool.and_eq_true, decide_eq_true_iff] at h
      obtain ⟨i1, i2⟩ := ih 2 (by omega) (by omega) h.2
      rw [if_neg (by omega)]
      exact ⟨by omega, fun k hk => by rw [List.mem_cons] at hk; rcases hk with u | u; omega; exact i2 k u⟩
    rw [if_neg c] at h
    by_cases d : w = 10
    · rw [if_pos d, Bool.and_eq_true, decide_eq_true_iff] at h
      obtain ⟨i1, i2⟩ := ih 1 (by omega) (by omega) h.2
      rw [if_neg (by omega)]
      exact ⟨by omega, fun k hk => by rw [List.mem_cons] at hk; rcases hk with u | u; omega; exact i2 k u⟩
    rw [if_neg d] at h
    by_cases e : w = 9
    · rw [if_pos e, Bool.and_eq_true, decide_eq_true_iff] at h
      obtain ⟨i1, i2⟩ := ih 0 (by omega) (by omega) h.2
      rw [if_pos e]
      exact ⟨by omega, fun k hk => by rw [List.mem_cons] at hk; rcases hk with u | u; omega; exact i2 k u⟩
    · rw [if_neg e] at h; cases h
theorem split9 : ∀ O : List Int, okS 0 O = true → ∃ A B, O = A ++ B ∧ (∀ k, k ∈ A → k = 9) ∧ okS 0 B = true ∧ ∀ k ys, B = k :: ys → k ≠ 9 := by
  intro O
  induction O with
  | nil => intro _; exact ⟨[], [], rfl, (fun k hk => by cases hk), rfl, fun k ys h => by cases h⟩
  | cons w o ih =>
    intro h
    by_cases e : w = 9
    · have h' := h
      unfold okS at h'
      rw [if_neg (by omega), if_neg (by omega), if_neg (by omega), if_pos e, Bool.and_eq_true] at h'
      obtain ⟨A, B, a1, a2, a3, a4⟩ := ih h'.2
      exact ⟨w :: A, B, by rw [a1]; rfl, (fun k hk => by rw [List.mem_cons] at hk; rcases hk with u | u; rw [u]; exact e; exact a2 k u), a3, a4⟩
    · exact ⟨[], w :: o, rfl, (fun k hk => by cases hk), h, fun k ys hk => by injection hk with u _; rw [← u]; exact e⟩
theorem split10 {O : List Int} (h : okS 0 O = true) (h9 : ∀ k ys, O = k :: ys → k ≠ 9) : ∃ A B, O = A ++ B ∧ (A = [] ∨ A = [10]) ∧ okS 1 B = true ∧ ∀ k ys, B = k :: ys → k = 11 ∨ k = 12 := by
  have one : ∀ o : List Int, okS 1 o = true → ∀ k ys, o = k :: ys → k = 11 ∨ k = 12 := fun o ho k ys hk => by
    rw [hk] at ho
    unfold okS at ho
    by_cases a : k = 12
    · right; exact a
    · rw [if_neg a] at ho
      by_cases b : k = 11
      · left; exact b
      · rw [if_neg b] at ho
        by_cases c : k = 10
        · rw [if_pos c] at ho; cases ho
        · rw [if_neg c] at ho
          by_cases d : k = 9
          · rw [if_pos d] at ho; cases ho
          · rw [if_neg d] at ho; cases ho
  cases O with
  | nil => exact ⟨[], [], rfl, Or.inl rfl, rfl, fun k ys h => by cases h⟩
  | cons w o =>
    have h' := h
    unfold okS at h'
    by_cases a : w = 12
    · rw [if_pos a] at h'
      refine ⟨[], w :: o, rfl, Or.inl rfl, by unfold okS; rw [if_pos a]; exact h', fun k ys hk => by injection hk with u _; right; rw [← u]; exact a⟩
    rw [if_neg a] at h'
    by_cases b : w = 11
    · rw [if_pos b, Bool.and_eq_true] at h'
      refine ⟨[], w :: o, rfl, Or.inl rfl, by unfold okS; rw [if_neg a, if_pos b, h'.2]; rfl, fun k ys hk => by injection hk with u _; left; rw [← u]; exact b⟩
    rw [if_neg b] at h'
    by_cases c : w = 10
    · rw [if_pos c, Bool.and_eq_true] at h'
      exact ⟨[w], o, rfl, Or.inr (by rw [c]), h'.2, one o h'.2⟩
    · rw [if_neg c, if_neg (h9 w o rfl)] at h'; cases h'
theorem split11 {O : List Int} (h : okS 1 O = true) (hk : ∀ k ys, O = k :: ys → k = 11 ∨ k = 12) : ∃ A B, O = A ++ B ∧ (A = [] ∨ A = [11]) ∧ okS 2 B = true ∧ (B = [] ∨ ∃ B', B = 12 :: B' ∧ okS 0 B' = true) := by
  have two : ∀ o : List Int, okS 2 o = true → o = [] ∨ ∃ B', o = 12 :: B' ∧ okS 0 B' = true := fun o ho => by
    cases o with
    | nil => left; rfl
    | cons k ys =>
      right
      unfold okS at ho
      by_cases a : k = 12
      · rw [if_pos a] at ho; exact ⟨ys, by rw [a], ho⟩
      · rw [if_neg a] at ho
        by_cases b : k = 11
        · rw [if_pos b] at ho; cases ho
        · rw [if_neg b] at ho
          by_cases c : k = 10
          · rw [if_pos c] at ho; cases ho
          · rw [if_neg c] at ho
            by_cases d : k = 9
            · rw [if_pos d] at ho; cases ho
            · rw [if_neg d] at ho; cases ho
  cases O with
  | nil => exact ⟨[], [], rfl, Or.inl rfl, rfl, Or.inl rfl⟩
  | cons w o =>
    have h' := h
    unfold okS at h'
    rcases hk w o rfl with b | a
    · rw [if_neg (by omega), if_pos b, Bool.and_eq_true] at h'
      exact ⟨[w], o, rfl, Or.inr (by rw [b]), h'.2, two o h'.2⟩
    · rw [if_pos a] at h'
      have : okS 2 (w :: o) = true := by unfold okS; rw [if_pos a]; exact h'
      exact ⟨[], w :: o, rfl, Or.inl rfl, this, two _ this⟩
theorem JC_O {N : Nat} {b : Int → Int} {L sl cl : Int} {r0 : iv_M} {Pc Q : List (Int × Int)} {O O' : List Int} (h : JC N b L sl cl r0 Pc Q O) (h' : n9 O' + n12 O' ≤ 10) : JC N b L sl cl r0 Pc Q O' := ⟨h.1, h.2.1, h.2.2.1, h.2.2.2.1, h.2.2.2.2.1, h', h.2.2.2.2.2.2⟩
/-- the reference answers what is on top of what it opened -/
theorem oshift_sim {N : Nat} {b : Int → Int} {L sl cl : Int} {s0 r0 : iv_M} {Pc Q : List (Int × Int)} {O : List Int} {c r : iv_M} {p pr x stg cmp cnt k : Int} {A : List (Int × Int)} {X : List Int} {ty ty' : List Bool} (hC : JC N b L sl cl r0 Pc Q (k :: O)) (h : JS b L sl cl s0 r0 Pc Q (k :: O) c r p pr x stg cmp cnt A X [] ty 0) (hk : k = 9 ∨ k = 10 ∨ k = 11) (ht : tye (k, 0) ty = some ty') : ∃ r1 r', FX12_entry N r 113 k 0 = some r1 ∧ r1 113 36 = (O.length : Int) + 1 ∧ r1 113 34 = n9 (k :: O) + n12 (k :: O) ∧ r' = mu (mu r1 113 36 (O.length : Int)) 113 34 (n9 O + n12 O) ∧ JS b L sl cl s0 r0 Pc Q O c r' p pr x stg cmp cnt A (X ++ [k]) [] ty' 0 := by
  obtain ⟨l1, l2⟩ := JS_len hC h (by omega)
  obtain ⟨hN, hT, ⟨s00, s01⟩, _, h5, h6, h37⟩ := hC
  obtain ⟨⟨⟨fr, hR⟩, hK, hFc⟩, ⟨hRT, hRK, hFr⟩, hx, hty, ⟨nt, t0, t1, t2⟩, hnv, ⟨c0, c1⟩, hisK, hw⟩ := h
  obtain ⟨r1, a1, a2, a3, a4⟩ := entry_ok (N := N) (k := k) (n := 0) hRT hRK s00 s01 (by omega)
  have hkK : isK k := hisK k (by simp)
  have wl : X ++ [k] ++ ([] ++ O) = X ++ ([] ++ (k :: O)) := by rw [List.append_assoc]; rfl
  have el : A ++ em (X ++ [k]) = A ++ em X ++ [(k, 0)] := by rw [em_app, ← List.append_assoc]; rfl
  have e2 : Q ++ (A ++ em (X ++ [k])) = Q ++ (A ++ em X) ++ [(k, 0)] := by rw [el, List.append_assoc Q]
  obtain ⟨b1, ⟨b2, b3⟩, ⟨b4, b5⟩, b6, b7, b8⟩ := a3
  have d12 : n12 (k :: O) = n12 O := by show (if k = 12 then 1 else 0) + n12 O = _; rw [if_neg (by omega)]; omega
  refine ⟨r1, _, a1, by rw [b4]; simp, b6, rfl, ⟨⟨fr, hR⟩, by rw [wl]; exact hK, hFc⟩, ⟨RT_i (RT_i a2 (by omega) (by omega) (by omega)) (by omega) (by omega) (by omega), ⟨by rw [mu_ne (by omega), mu_ne (by omega)]; exact b1, ⟨by rw [mu_ne (by omega), mu_ne (by omega), b2, e2], ?_⟩, ⟨by rw [mu_ne (by omega), mu_eq], by rw [mu_rw (by decide), mu_rw (by decide)]; exact b5.2⟩, mu_eq, by rw [mu_ne (by omega), mu_ne (by omega)]; exact b7, by rw [mu_ne (by omega), mu_ne (by omega)]; exact b8⟩, (hFr.trans a4).trans ((FrR_m (by omega)).trans (FrR_m (by omega)))⟩, hx, ?_, ⟨nt, t0, t1, ?_⟩, ?_, ⟨c0, c1⟩, by rw [wl]; exact hisK, ?_⟩
  · refine EN_ext (s := r1) (by rw [mu_rw (by decide), mu_rw (by decide)]) (by rw [mu_rw (by decide), mu_rw (by decide)]) _ _ ?_
    rw [e2]; exact b3
  · rw [el, tyl_app, hty]
    show (tye (k, 0) ty).bind (tyl []) = some ty'
    rw [ht]; rfl
  · rw [d12] at t2
    rw [List.length_append]; simp at t2 ⊢; omega
  · rw [el, ← List.append_assoc, nvs_app]
    have : nvs [((k, 0) : Int × Int)] = 0 := nvs_em [k] (fun j hj => by rw [List.mem_singleton] at hj; rw [hj]; exact hkK)
    omega
  · rw [List.length_append]; simp at hw ⊢; omega
def hd1 : List Int → Int
  | [] => -1
  | k :: _ => k
theorem top_ok {N : Nat} {r : iv_M} {sl dep cnt : Int} {B : List (Int × Int)} {O : List Int} (h : RK r sl B O dep cnt) (hl : O.length ≤ 400) : FX12_top N r 113 = some (hd1 O) := by
  obtain ⟨_, _, ⟨b4, b5⟩, _⟩ := h
  unfold FX12_top FX12_top_b22
  simp only [Nat.reduceAdd]
  rw [b4]
  cases O with
  | nil => rw [if_pos (by decide)]; rfl
  | cons k ks =>
    have hl2 : ((k :: ks).length : Int) = (ks.length : Int) + 1 := by simp
    have : ks.length + 1 ≤ 400 := by simpa using hl
    rw [if_neg (by omega), hl2, w32_id (by omega) (by omega), show (ks.length : Int) + 1 - 1 = (ks.length : Int) by omega, rd_ok (by omega) (by omega), Option.bind_some, b5.1]
    rfl
theorem ans_sim {N : Nat} {b : Int → Int} {L sl cl : Int} {s0 r0 : iv_M} {Pc Q : List (Int × Int)} {O' : List Int} {c : iv_M} {p pr x stg cmp cnt k : Int} {A : List (Int × Int)} {rty : List Bool} (hk : k = 9 ∨ k = 10 ∨ k = 11) (hO' : ∀ j ys, O' = j :: ys → j ≠ k) (hl' : O'.length ≤ 60) : ∀ (O1 : List Int) (f : Nat) (r : iv_M) (X : List Int), (∀ j, j ∈ O1 → j = k) → O1.length < f → JC N b L sl cl r0 Pc Q (O1 ++ O') → JS b L sl cl s0 r0 Pc Q (O1 ++ O') c r p pr x stg cmp cnt A X [] (true :: (tyO O1 ++ rty)) 0 → ∃ r', FX12_answers_l0 N 113 k (fun (s_2620 : iv_M) => (FX12_answers_b54 N s_2620)) f r = some r' ∧ JS b L sl cl s0 r0 Pc Q O' c r' p pr x stg cmp cnt A (X ++ O1) [] (true :: rty) 0 := by
  intro O1
  induction O1 with
  | nil =>
    intro f r X _ hf hC h
    obtain ⟨f', rfl⟩ : ∃ f', f = f' + 1 := ⟨f - 1, by omega⟩
    rw [List.append_nil]
    refine ⟨r, ?_, h⟩
    have hRK := h.2.1.2.1
    rw [FX12_answers_l0, top_ok hRK (by simp; omega), Option.bind_some]
    cases O' with
    | nil =>
      have e : hd1 ([] ++ []) = -1 := rfl
      rw [e, if_neg (show ¬ (-1 : Int) = k by omega)]; rfl
    | cons j js =>
      have e : hd1 ([] ++ j :: js) = j := rfl
      rw [e, if_neg (show ¬ j = k from hO' j js rfl)]; rfl
  | cons j O1 ih =>
    intro f r X hj hf hC h
    obtain ⟨f', rfl⟩ : ∃ f', f = f' + 1 := ⟨f - 1, by omega⟩
    have ej : j = k := hj j List.mem_cons_self
    subst ej
    have h60 := h.2.2.2.2.2.2.2.2
    have h60' : O1.length + O'.length + 1 ≤ 60 := by simp at h60; omega
    have hRK := h.2.1.2.1
    have hRT := h.2.1.1
    have tt : tye (j, 0) (true :: (tyO (j :: O1) ++ rty)) = some (true :: (tyO O1 ++ rty)) := by
      rcases hk with u | u | u
      · rw [u]; rfl
      · rw [u]; rfl
      · rw [u]; rfl
    obtain ⟨r1, r2, a1, a2, a3, a4, a5⟩ := oshift_sim (O := O1 ++ O') hC h hk tt
    have d12 : n12 (j :: (O1 ++ O')) = n12 (O1 ++ O') := by show (if j = 12 then 1 else 0) + n12 (O1 ++ O') = _; rw [if_neg (by omega)]; omega
    have d9 : n9 (j :: (O1 ++ O')) = (if j = 9 then 1 else 0) + n9 (O1 ++ O') := rfl
    have nn := n9_nn (O1 ++ O')
    have nn2 := n12_nn (O1 ++ O')
    have hC2 : JC N b L sl cl r0 Pc Q (O1 ++ O') := JC_O hC (by
      have h6 := hC.2.2.2.2.2.1
      have : n9 (j :: (O1 ++ O')) + n12 (j :: (O1 ++ O')) ≤ 10 := h6
      rw [d12, d9] at this
      split at this <;> omega)
    obtain ⟨r', i1, i2⟩ := ih f' r2 (X ++ [j]) (fun i hi => hj i (List.mem_cons_of_mem _ hi)) (by simp at hf; omega) hC2 a5
    refine ⟨r', ?_, by rw [List.append_assoc] at i2; exact i2⟩
    have lo : ((O1 ++ O').length : Int) ≤ 60 := by rw [List.length_append]; omega
    have dep10 := hC2.2.2.2.2.2.1
    rw [FX12_answers_l0, top_ok hRK (by simp; omega), Option.bind_some]
    have ehd : hd1 (j :: O1 ++ O') = j := rfl
    rw [ehd, if_pos rfl, hRT.2.2.1, if_pos rfl, a1, Option.bind_some, pt_ok, Option.bind_some, a2, w32_id (by omega) (by omega), show ((O1 ++ O').length : Int) + 1 - 1 = ((O1 ++ O').length : Int) by omega]
    unfold FX12_answers_b47
    have e34 : mu r1 113 36 ((O1 ++ O').length : Int) 113 34 = n9 (j :: (O1 ++ O')) + n12 (j :: (O1 ++ O')) := by rw [mu_ne (by omega)]; exact a3
    rw [e34, d12, d9]
    by_cases g : j = 9
    · rw [if_pos g, if_pos g, pt_ok, Option.bind_some, w32_id (by omega) (by omega), show 1 + n9 (O1 ++ O') + n12 (O1 ++ O') - 1 = n9 (O1 ++ O') + n12 (O1 ++ O') by omega, ← a4]
      exact i1
    · rw [if_neg g, if_neg g, pt_ok, Option.bind_some, w32_id (by omega) (by omega), show 0 + n9 (O1 ++ O') + n12 (O1 ++ O') - 0 = n9 (O1 ++ O') + n12 (O1 ++ O') by omega, ← a4]
      exact i1
theorem tyO_app : ∀ (A B : List Int), tyO (A ++ B) = tyO A ++ tyO B := by
  intro A
  induction A with
  | nil => intro B; rfl
  | cons k ks ih =>
    intro B
    show (if k = 10 ∨ k = 11 then true :: tyO (ks ++ B) else tyO (ks ++ B)) = (if k = 10 ∨ k = 11 then true :: tyO ks else tyO ks) ++ tyO B
    rw [ih]
    split <;> rfl
theorem answers_ok {N : Nat} {b : Int → Int} {L sl cl : Int} {s0 r0 : iv_M} {Pc Q : List (Int × Int)} {O1 O' : List Int} {c r : iv_M} {p pr x stg cmp cnt k : Int} {A : List (Int × Int)} {X : List Int} (hk : k = 9 ∨ k = 10 ∨ k = 11) (hO' : ∀ j ys, O' = j :: ys → j ≠ k) (hO1 : ∀ j, j ∈ O1 → j = k) (hC : JC N b L sl cl r0 Pc Q (O1 ++ O')) (h : JS b L sl cl s0 r0 Pc Q (O1 ++ O') c r p pr x stg cmp cnt A X [] (true :: tyO (O1 ++ O')) 0) : ∃ r', FX12_answers N r 113 k = some r' ∧ JC N b L sl cl r0 Pc Q O' ∧ JS b L sl cl s0 r0 Pc Q O' c r' p pr x stg cmp cnt A (X ++ O1) [] (true :: tyO O') 0 := by
  have h60 := h.2.2.2.2.2.2.2.2
  have h60' : O1.length + O'.length ≤ 60 := by simp at h60; omega
  rw [tyO_app] at h
  obtain ⟨r', a1, a2⟩ := ans_sim (N := N) (rty := tyO O') hk hO' (by omega) O1 N r X hO1 (by have := hC.1; omega) hC h
  refine ⟨r', by unfold FX12_answers; exact a1, JC_O hC ?_, a2⟩
  have h6 := hC.2.2.2.2.2.1
  rw [n9_app, n12_app] at h6
  have n1 := n9_nn O1
  have n2 := n12_nn O1
  omega
