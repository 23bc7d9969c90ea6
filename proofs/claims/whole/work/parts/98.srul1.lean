-- RULE: the class's reader of rules, its rows
def wco (k : Int) : Int := if k = 12 then 14 else cop k
def rnk (k : Int) : Int := if k = 12 then 0 else if k = 11 then 1 else if k = 10 then 2 else if k = 9 then 3 else if 4 ≤ k ∧ k ≤ 8 then 4 else if k = 2 ∨ k = 3 then 5 else 6
def isK (k : Int) : Prop := 2 ≤ k ∧ k ≤ 15
theorem isK_all {k : Int} (h : isK k) : k = 2 ∨ k = 3 ∨ k = 4 ∨ k = 5 ∨ k = 6 ∨ k = 7 ∨ k = 8 ∨ k = 9 ∨ k = 10 ∨ k = 11 ∨ k = 12 ∨ k = 13 ∨ k = 14 ∨ k = 15 := by unfold isK at h; omega
theorem rk_ok {k : Int} (h : isK k) : rk (wco k) = some (rnk k) := by
  rcases isK_all h with e | e | e | e | e | e | e | e | e | e | e | e | e | e <;> rw [e] <;> decide
theorem wco_3 {k : Int} (h : isK k) : wco k = 3 ↔ k = 9 := by
  rcases isK_all h with e | e | e | e | e | e | e | e | e | e | e | e | e | e <;> rw [e] <;> decide
theorem cce_op {k : Int} (h : isK k) (h12 : k ≠ 12) : cce (k, 0) = wco k := by
  unfold cce wco
  unfold isK at h
  show (if k = 0 then 100 + 0 else if k = 1 then 20 + 0 else cop k) = _
  rw [if_neg (by omega), if_neg (by omega), if_neg h12]
def n9 : List Int → Int
  | [] => 0
  | k :: ks => (if k = 9 then 1 else 0) + n9 ks
def n12 : List Int → Int
  | [] => 0
  | k :: ks => (if k = 12 then 1 else 0) + n12 ks
theorem n9_app : ∀ (a b : List Int), n9 (a ++ b) = n9 a + n9 b := by
  intro a
  induction a with
  | nil => intro b; show n9 b = 0 + n9 b; omega
  | cons k ks ih => intro b; show (if k = 9 then 1 else 0) + n9 (ks ++ b) = (if k = 9 then 1 else 0) + n9 ks + n9 b; rw [ih]; omega
theorem n12_app : ∀ (a b : List Int), n12 (a ++ b) = n12 a + n12 b := by
  intro a
  induction a with
  | nil => intro b; show n12 b = 0 + n12 b; omega
  | cons k ks ih => intro b; show (if k = 12 then 1 else 0) + n12 (ks ++ b) = (if k = 12 then 1 else 0) + n12 ks + n12 b; rw [ih]; omega
theorem n9_nn : ∀ a : List Int, 0 ≤ n9 a ∧ n9 a ≤ a.length := by
  intro a
  induction a with
  | nil => exact ⟨Int.le_refl 0, Int.le_refl 0⟩
  | cons k ks ih =>
    have hl : ((k :: ks).length : Int) = (ks.length : Int) + 1 := by simp
    show 0 ≤ (if k = 9 then 1 else 0) + n9 ks ∧ (if k = 9 then 1 else 0) + n9 ks ≤ ((k :: ks).length : Int)
    split <;> omega
theorem n12_nn : ∀ a : List Int, 0 ≤ n12 a ∧ n12 a ≤ a.length := by
  intro a
  induction a with
  | nil => exact ⟨Int.le_refl 0, Int.le_refl 0⟩
  | cons k ks ih =>
    have hl : ((k :: ks).length : Int) = (ks.length : Int) + 1 := by simp
    show 0 ≤ (if k = 12 then 1 else 0) + n12 ks ∧ (if k = 12 then 1 else 0) + n12 ks ≤ ((k :: ks).length : Int)
    split <;> omega
def em (X : List Int) : List (Int × Int) := X.map (fun k => (k, 0))
/-- the rows of the class's reader of rules: what is done, what waits, and its numbers -/
def CK (c : iv_M) (E : List (Int × Int)) (W : List Int) (stg cmp cl dep br cnt : Int) : Prop := (c 57 2 = E.length ∧ CE c 60 0 E) ∧ (c 57 4 = W.length ∧ SR (c 61) (W.map wco)) ∧ c 57 5 = stg ∧ c 57 6 = cmp ∧ c 57 7 = cl ∧ c 57 8 = dep ∧ c 57 9 = br ∧ c 57 10 = cnt
def Fr3 (c c' : iv_M) : Prop := ∀ a, a ≠ 57 → a ≠ 60 → a ≠ 61 → c' a = c a
theorem Fr3.refl {c : iv_M} : Fr3 c c := fun _ _ _ _ => rfl
theorem Fr3.trans {c c1 c2 : iv_M} (h : Fr3 c c1) (h2 : Fr3 c1 c2) : Fr3 c c2 := fun a x y z => (h2 a x y z).trans (h a x y z)
theorem CK_ext {c c' : iv_M} {E : List (Int × Int)} {W : List Int} {stg cmp cl dep br cnt : Int} (h57 : c' 57 = c 57) (h60 : c' 60 = c 60) (h61 : c' 61 = c 61) (h : CK c E W stg cmp cl dep br cnt) : CK c' E W stg cmp cl dep br cnt := by
  obtain ⟨⟨a1, a2⟩, ⟨a3, a4⟩, a5⟩ := h
  refine ⟨⟨by rw [h57]; exact a1, CE_ext h60 _ _ a2⟩, ⟨by rw [h57]; exact a3, by rw [h61]; exact a4⟩, by rw [h57]; exact a5⟩
/-- one number of it changes -/
theorem CK_f {c : iv_M} {E : List (Int × Int)} {W : List Int} {stg cmp cl dep br cnt : Int} {i v : Int} (h : CK c E W stg cmp cl dep br cnt) (hi : i ≠ 2) (hi4 : i ≠ 4) : CK (mu c 57 i v) E W (if i = 5 then v else stg) (if i = 6 then v else cmp) (if i = 7 then v else cl) (if i = 8 then v else dep) (if i = 9 then v else br) (if i = 10 then v else cnt) := by
  obtain ⟨⟨a1, a2⟩, ⟨a3, a4⟩, a5, a6, a7, a8, a9, a10⟩ := h
  have r : ∀ j w, c 57 j = w → mu c 57 i v 57 j = if i = j then v else w := fun j w hw => by
    by_cases g : i = j
    · rw [if_pos g, g, mu_eq]
    · rw [if_neg g, mu_ne (by omega)]; exact hw
  refine ⟨⟨by rw [mu_ne (by omega)]; exact a1, CE_ext (mu_rw (by decide)) _ _ a2⟩, ⟨by rw [mu_ne (by omega)]; exact a3, by rw [mu_rw (by decide)]; exact a4⟩, r 5 _ a5, r 6 _ a6, r 7 _ a7, r 8 _ a8, r 9 _ a9, r 10 _ a10⟩
theorem mu_fr {c : iv_M} {i v : Int} : Fr3 c (mu c 57 i v) := fun a x _ _ => mu_rw x
theorem CE_snoc {c : iv_M} {E : List (Int × Int)} {e : Int × Int} {i : Int} : CE c 60 i (E ++ [e]) ↔ CE c 60 i E ∧ c 60 (i + E.length) = cce e := by
  rw [CE_app]
  exact ⟨fun h => ⟨h.1, h.2.1⟩, fun h => ⟨h.1, h.2, trivial⟩⟩
theorem CE_mu {c : iv_M} {v j : Int} : ∀ (E : List (Int × Int)) (i : Int), i + E.length ≤ j → CE c 60 i E → CE (mu c 60 j v) 60 i E := by
  intro E
  induction E with
  | nil => intro i _ _; trivial
  | cons e es ih =>
    intro i hi h
    have hl : ((e :: es).length : Int) = (es.length : Int) + 1 := by simp
    exact ⟨by rw [mu_ne (by omega)]; exact h.1, ih (i + 1) (by omega) h.2⟩
theorem emit_ok {N : Nat} {c : iv_M} {E : List (Int × Int)} {W : List Int} {stg cmp cl dep br cnt x : Int} {e : Int × Int} (h : CK c E W stg cmp cl dep br cnt) (hl : E.length < 400) (hx : cce e = x) : ∃ c', FX8_emit N c 57 x = some c' ∧ CK c' (E ++ [e]) W stg cmp cl dep br cnt ∧ Fr3 c c' := by
  obtain ⟨⟨a1, a2⟩, ⟨a3, a4⟩, a5, a6, a7, a8, a9, a10⟩ := h
  refine ⟨mu (mu c 60 (E.length : Int) x) 57 2 ((E.length : Int) + 1), ?_, ⟨⟨by rw [mu_eq, List.length_append]; rfl, ?_⟩, ⟨by rw [mu_ne (by omega), mu_rw (by decide)]; exact a3, by rw [mu_rw (by decide), mu_rw (by decide)]; exact a4⟩, ?_, ?_, ?_, ?_, ?_, ?_⟩, fun a x1 x2 x3 => by rw [mu_rw x1, mu_rw x2]⟩
  · unfold FX8_emit FX8_emit_b30
    simp only [Nat.reduceAdd]
    rw [a1, if_neg (by omega), wr_ok (by omega) (by omega), Option.bind_some, pt_ok, Option.bind_some, mu_rw (by decide), a1, w32_id (by omega) (by omega)]
  · refine CE_ext (s := mu c 60 (E.length : Int) x) (mu_rw (by decide)) _ _ ?_
    rw [CE_snoc]
    refine ⟨CE_mu E 0 (by omega) a2, ?_⟩
    rw [Int.zero_add, mu_eq, hx]
  all_goals (rw [mu_ne (by omega), mu_rw (by decide)]; assumption)
theorem SR_mu {c : iv_M} {j v : Int} : ∀ (st : List Int), (st.length : Int) ≤ j → SR (c 61) st → SR (mu c 61 j v 61) st := fun st hj h => SR_ext st (fun i i0 i1 => mu_ne (by omega)) h
theorem hold_ok {N : Nat} {c : iv_M} {E : List (Int × Int)} {W : List Int} {stg cmp cl dep br cnt k : Int} (h : CK c E W stg cmp cl dep br cnt) (hl : W.length < 64) : ∃ c', FX8_hold N c 57 (wco k) = some c' ∧ CK c' E (k :: W) stg cmp cl dep br cnt ∧ Fr3 c c' := by
  obtain ⟨⟨a1, a2⟩, ⟨a3, a4⟩, a5, a6, a7, a8, a9, a10⟩ := h
  refine ⟨mu (mu c 61 (W.length : Int) (wco k)) 57 4 ((W.length : Int) + 1), ?_, ⟨⟨by rw [mu_ne (by omega), mu_rw (by decide)]; exact a1, CE_ext (by rw [mu_rw (by decide), mu_rw (by decide)]) _ _ a2⟩, ⟨by rw [mu_eq]; simp, ?_⟩, ?_, ?_, ?_, ?_, ?_, ?_⟩, fun a x1 x2 x3 => by rw [mu_rw x1, mu_rw x3]⟩
  · unfold FX8_hold FX8_hold_b32
    simp only [Nat.reduceAdd]
    rw [a3, if_neg (by omega), wr_ok (by omega) (by omega), Option.bind_some, pt_ok, Option.bind_some, mu_rw (by decide), a3, w32_id (by omega) (by omega)]
  · rw [mu_rw (by decide)]
    have := SR_push (s := c) (a := 61) (st := W.map wco) (v := wco k) a4
    rw [List.length_map] at this
    exact this
  all_goals (rw [mu_ne (by omega), mu_rw (by decide)]; assumption)
theorem CK_pop {c : iv_M} {E : List (Int × Int)} {W : List Int} {stg cmp cl dep br cnt k : Int} (h : CK c E (k :: W) stg cmp cl dep br cnt) : CK (mu c 57 4 (W.length : Int)) E W stg cmp cl dep br cnt := by
  obtain ⟨⟨a1, a2⟩, ⟨a3, a4⟩, a5, a6, a7, a8, a9, a10⟩ := h
  refine ⟨⟨by rw [mu_ne (by omega)]; exact a1, CE_ext (mu_rw (by decide)) _ _ a2⟩, ⟨mu_eq, by rw [mu_rw (by decide)]; exact a4.2⟩, ?_, ?_, ?_, ?_, ?_, ?_⟩
  all_goals (rw [mu_ne (by omega)]; assumption)
theorem release_l {N : Nat} {Y : List Int} {stg cmp cl br cnt rho : Int} {kx : iv_M → Option iv_M} (hY : ∀ k ys, Y = k :: ys → isK k ∧ rnk k < rho) (hrho : 0 < rho) : ∀ (X : List Int) (f : Nat) (c : iv_M) (E : List (Int × Int)) (dep : Int), (∀ k, k ∈ X → isK k ∧ rho ≤ rnk k) → CK c E (X ++ Y) stg cmp cl dep br cnt → E.length + X.length ≤ 400 → X.length + Y.length ≤ 64 → X.length < f → n9 X - 1000 ≤ dep → dep ≤ 1000 → ∃ c', FX8_release_l0 N 57 rho kx f c = kx c' ∧ CK c' (E ++ em X) Y stg cmp cl (dep - n9 X) br cnt ∧ Fr3 c c' := by
  intro X
  induction X with
  | nil =>
    intro f c E dep hX h hl hl2 hf d0 d1
    obtain ⟨f', rfl⟩ : ∃ f', f = f' + 1 := ⟨f - 1, by omega⟩
    refine ⟨c, ?_, by show CK c (E ++ []) Y stg cmp cl (dep - 0) br cnt; rw [List.append_nil, Int.sub_zero]; exact h, Fr3.refl⟩
    obtain ⟨⟨a1, a2⟩, ⟨a3, a4⟩, a5⟩ := h
    rw [FX8_release_l0]
    simp only [Nat.reduceAdd]
    rw [a3]
    cases Y with
    | nil => rw [if_pos (by decide)]
    | cons k ys =>
      have hl : (([] ++ k :: ys).length : Int) = (ys.length : Int) + 1 := by simp
      obtain ⟨hk, hr⟩ := hY k ys rfl
      have top : c 61 (ys.length : Int) = wco k := by
        have := a4.1
        rw [List.length_map] at this
        exact this
      have hl2' : ys.length + 1 ≤ 64 := by simp at hl2; omega
      rw [if_neg (by omega), hl, w32_id (by omega) (by omega), show (ys.length : Int) + 1 - 1 = (ys.length : Int) by omega, rd_ok (by omega) (by omega), Option.bind_some, top, rk_ok hk, Option.bind_some, if_pos hr]
  | cons k X ih =>
    intro f c E dep hX h hl hl2 hf d0 d1
    obtain ⟨f', rfl⟩ : ∃ f', f = f' + 1 := ⟨f - 1, by omega⟩
    obtain ⟨hk, hr⟩ := hX k List.mem_cons_self
    have hll : ((k :: X ++ Y).length : Int) = ((X ++ Y).length : Int) + 1 := by simp
    have hb : (X ++ Y).length < 64 := by rw [List.length_append]; simp at hl2; omega
    have hk12 : k ≠ 12 := fun z => by rw [z] at hr; have : rnk 12 = 0 := by decide
                                      omega
    have h' := h
    obtain ⟨⟨a1, a2⟩, ⟨a3, a4⟩, a5, a6, a7, a8, a9, a10⟩ := h'
    have top : c 61 ((X ++ Y).length : Int) = wco k := by
      have := a4.1
      rw [List.length_map] at this
      exact this
    have p1 := CK_pop (W := X ++ Y) h
    have dd : (if k = 9 then 1 else 0) + n9 X - 1000 ≤ dep := d0
    have nx0 := n9_nn X
    have top2 : mu c 57 4 ((X ++ Y).length : Int) 61 ((X ++ Y).length : Int) = wco k := by rw [mu_rw (by decide)]; exact top
    have dv : mu c 57 4 ((X ++ Y).length : Int) 57 8 = dep := by rw [mu_ne (by omega)]; exact a8
    have nine : 0 ≤ n9 (k :: X) ∧ n9 (k :: X) ≤ 64 := by have := n9_nn (k :: X); simp at hl2 this; omega
    have p2 := CK_f (i := 8) (v := dep - (if k = 9 then 1 else 0)) p1 (by omega) (by omega)
    simp only [Int.reduceEq, if_true, if_false] at p2
    obtain ⟨c1, e1, e2, e3⟩ := emit_ok (N := N) (x := wco k) (e := (k, 0)) p2 (by simp at hl; omega) (cce_op hk hk12)
    obtain ⟨c', e4, e5, e6⟩ := ih f' c1 (E ++ [(k, 0)]) (dep - (if k = 9 then 1 else 0)) (fun j hj => hX j (List.mem_cons_of_mem _ hj)) e2 (by rw [List.length_append]; simp at hl ⊢; omega) (by simp at hl2; omega) (by simp at hf; omega) (by split <;> omega) (by split <;> omega)
    have d8 : w32 (dep - (if k = 9 then 1 else 0)) = dep - (if k = 9 then 1 else 0) := w32_id (by split <;> omega) (by split <;> omega)
    refine ⟨c', ?_, ?_, Fr3.trans (Fr3.trans (Fr3.trans mu_fr mu_fr) e3) e6⟩
    · rw [FX8_release_l0]
      simp only [Nat.reduceAdd]
      rw [a3, if_neg (by omega), hll, w32_id (by omega) (by omega), show ((X ++ Y).length : Int) + 1 - 1 = ((X ++ Y).length : Int) by omega, rd_ok (by omega) (by omega), Option.bind_some, top, rk_ok hk, Option.bind_some, if_neg (by omega), pt_ok, Option.bind_some, mu_eq, rd_ok (by omega) (by omega), Option.bind_some, top2]
      have go : ∀ v : Int, v = dep - (if k = 9 then 1 else 0) → ((pt (mu c 57 4 ((X ++ Y).length : Int)) 57 8 v).bind fun s_1246 => ((rd s_1246 61 64 (s_1246 57 4)).bind fun v_1249 => ((FX8_emit N s_1246 57 v_1249).bind fun s_1251 => FX8_release_l0 N 57 rho kx f' s_1251))) = kx c' := fun v hv => by
        rw [hv, pt_ok, Option.bind_some, mu_ne (show ¬ ((57 : Nat) = 57 ∧ (4 : Int) = 8) by omega), mu_eq, rd_ok (by omega) (by omega), Option.bind_some, mu_rw (show (61 : Nat) ≠ 57 by decide), top2, e1, Option.bind_some]
        exact e4
      unfold FX8_release_b59
      simp only [Nat.reduceAdd]
      by_cases g : k = 9
      · rw [if_pos ((wco_3 hk).mpr g), dv]
        exact go _ (by rw [if_pos g] at d8 ⊢; exact d8)
      · rw [if_neg (fun z => g ((wco_3 hk).mp z)), dv]
        exact go _ (by rw [if_neg g] at d8 ⊢; exact d8)
    · have q1 : E ++ [(k, 0)] ++ em X = E ++ em (k :: X) := by rw [List.append_assoc]; rfl
      have q2 : dep - (if k = 9 then 1 else 0) - n9 X = dep - n9 (k :: X) := by
        show _ = dep - ((if k = 9 then 1 else 0) + n9 X); omega
      rw [q1, q2] at e5
      exact e5
