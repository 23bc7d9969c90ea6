-- THE CLASS ANSWERS A RULE
def CE (s : iv_M) (q : Nat) : Int → List (Int × Int) → Prop
  | _, [] => True
  | i, e :: es => s q i = cce e ∧ CE s q (i + 1) es
theorem CE_ext {s s' : iv_M} {q : Nat} (h0 : s' q = s q) : ∀ (es : List (Int × Int)) (i : Int), CE s q i es → CE s' q i es
  | [], _, _ => trivial
  | e :: es, i, h => ⟨by rw [h0]; exact h.1, CE_ext h0 es (i + 1) h.2⟩
theorem CE_app {s : iv_M} {q : Nat} : ∀ (es fs : List (Int × Int)) (i : Int), CE s q i (es ++ fs) ↔ CE s q i es ∧ CE s q (i + es.length) fs
  | [], fs, i => by
    show CE s q i fs ↔ True ∧ CE s q (i + ((0 : Nat) : Int)) fs
    rw [show i + ((0 : Nat) : Int) = i by omega]
    exact ⟨fun h => ⟨trivial, h⟩, fun h => h.2⟩
  | e :: es, fs, i => by
    show (s q i = cce e ∧ CE s q (i + 1) (es ++ fs)) ↔ (s q i = cce e ∧ CE s q (i + 1) es) ∧ CE s q (i + ((es.length + 1 : Nat) : Int)) fs
    rw [CE_app es fs (i + 1), show i + ((es.length + 1 : Nat) : Int) = i + 1 + es.length by omega]
    exact ⟨fun h => ⟨⟨h.1, h.2.1⟩, h.2.2⟩, fun h => ⟨h.1.1, h.1.2, h.2⟩⟩
/-- how many values stand in entries -/
def nvs : List (Int × Int) → Nat
  | [] => 0
  | e :: es => (if e.1 = 0 ∨ e.1 = 1 then 1 else 0) + nvs es
theorem nvs_app : ∀ (es fs : List (Int × Int)), nvs (es ++ fs) = nvs es + nvs fs
  | [], fs => by show nvs fs = 0 + nvs fs; omega
  | e :: es, fs => by
    show (if e.1 = 0 ∨ e.1 = 1 then 1 else 0) + nvs (es ++ fs) = (if e.1 = 0 ∨ e.1 = 1 then 1 else 0) + nvs es + nvs fs
    rw [nvs_app es fs]; omega
theorem cop_lt {k : Int} (h : isOp k) : 0 < cop k ∧ cop k < 20 ∧ cop k ≠ 3 := by
  have : k = 2 ∨ k = 3 ∨ k = 4 ∨ k = 5 ∨ k = 6 ∨ k = 7 ∨ k = 8 ∨ k = 10 ∨ k = 11 ∨ k = 13 ∨ k = 14 ∨ k = 15 := by unfold isOp at h; omega
  rcases this with rfl | rfl | rfl | rfl | rfl | rfl | rfl | rfl | rfl | rfl | rfl | rfl <;> decide
theorem cce_pos {e : Int × Int} {ty ty' : List Bool} {st : List Int} (h : tye e ty = some ty') (hv : vok st ty) : 0 < cce e := by
  rcases tye_cases h hv with ⟨e0, v1, v2, v3⟩ | ⟨e0, v1, v2, v3⟩ | ⟨e0, x, r, v1, v2, v3⟩ | ⟨e0, x, y, r, v1, t, t1', t2, tr, v2, v3, v4⟩
  · unfold cce; rw [if_pos e0]; omega
  · unfold cce; rw [if_neg (by omega), if_pos e0]; omega
  · unfold cce; rw [if_neg (by omega), if_neg (by omega), e0]; decide
  · have n0 : ¬ e.1 = 0 := by unfold isOp at e0; omega
    have n1 : ¬ e.1 = 1 := by unfold isOp at e0; omega
    unfold cce; rw [if_neg n0, if_neg n1]; exact (cop_lt e0).1
theorem bar_l {N ql q : Nat} {walk : Int} {kx : iv_M → Int → Option (Int × iv_M)} {A : Int → Int} {s0 : iv_M} (hsh : (sh (ql + 1)).2 = 64) (hq : q ≠ ql + 1) (hr : s0 ql 2 = q) (hval : ∀ s', (∀ a, a ≠ ql + 1 → s' a = s0 a) → ∀ w, 0 ≤ w → w < 13 → FX3_valueOf N s' ql w walk = some (A w)) : ∀ (es : List (Int × Int)) (n : Nat) (s : iv_M) (i : Int) (st : List Int) (ty ty' : List Bool), (∀ a, a ≠ ql + 1 → s a = s0 a) → CE s0 q i es → tyl es ty = some ty' → vok st ty → SR (s (ql + 1)) st → 0 ≤ i → i + es.length ≤ 401 → st.length + nvs es ≤ 64 → ∃ s', FX3_isBarred_l4 N ql walk kx (n + es.length) s st.length i = FX3_isBarred_l4 N ql walk kx n s' (evl A es st).length (i + es.length) ∧ SR (s' (ql + 1)) (evl A es st) ∧ ∀ a, a ≠ ql + 1 → s' a = s0 a := by
  intro es
  induction es with
  | nil =>
    intro n s i st ty ty' hf hE hT hv hS i0 i1 hl
    refine ⟨s, ?_, hS, hf⟩
    show _ = FX3_isBarred_l4 N ql walk kx n s st.length (i + ((0 : Nat) : Int))
    rw [show i + ((0 : Nat) : Int) = i by omega]
    rfl
  | cons e es ih =>
    intro n s i st ty ty' hf hE hT hv hS i0 i1 hl
    obtain ⟨t1, h1, h2⟩ := Option.bind_eq_some_iff.mp hT
    rw [List.length_cons] at i1
    have hnv : nvs (e :: es) = (if e.1 = 0 ∨ e.1 = 1 then 1 else 0) + nvs es := rfl
    rw [hnv] at hl
    have hql : s ql 2 = (q : Int) := by rw [hf ql (by omega)]; exact hr
    have hqn : (s ql 2).toNat = q := by rw [hql]; rfl
    have hrow : s q i = cce e := by rw [hf q hq]; exact hE.1
    have fin : ∀ s1 : iv_M, SR (s1 (ql + 1)) (ent A e st) → (∀ a, a ≠ ql + 1 → s1 a = s0 a) → (ent A e st).length + nvs es ≤ 64 → ∃ s', FX3_isBarred_l4 N ql walk kx (n + es.length) s1 (ent A e st).length (i + 1) = FX3_isBarred_l4 N ql walk kx n s' (evl A (e :: es) st).length (i + ((e :: es).length : Int)) ∧ SR (s' (ql + 1)) (evl A (e :: es) st) ∧ ∀ a, a ≠ ql + 1 → s' a = s0 a := by
      intro s1 hs1 hf1 hle
      obtain ⟨s', a1, a2, a3⟩ := ih n s1 (i + 1) (ent A e st) t1 ty' hf1 hE.2 h2 (ent_vok h1 hv) hs1 (by omega) (by omega) hle
      refine ⟨s', ?_, a2, a3⟩
      rw [a1, List.length_cons, show i + ((es.length + 1 : Nat) : Int) = i + 1 + es.length by omega]
      rfl
    show ∃ s', FX3_isBarred_l4 N ql walk kx (n + es.length + 1) s st.length i = _ ∧ _
    rw [FX3_isBarred_l4, if_neg (by omega), if_neg (by omega), if_neg (by omega), hqn, rd_ok i0 (by omega), Option.bind_some, hrow, if_neg (by have := cce_pos h1 hv; omega), if_neg (by omega), Option.bind_some]
    unfold FX3_isBarred_b77 FX3_isBarred_b84 FX3_isBarred_b119 FX3_isBarred_b123 FX3_isBarred_b158
    rw [hsh]
    have upf : ∀ (j v : Int) (a : Nat), a ≠ ql + 1 → mu s (ql + 1) j v a = s0 a := fun j v a ha => by
      rw [← hf a ha]; funext k; exact mu_ne (by omega)
    rcases tye_cases h1 hv with ⟨e0, v1, v2, v3⟩ | ⟨e0, v1, v2, v3⟩ | ⟨e0, x, r, v1, v2, v3⟩ | ⟨e0, x, y, r, v1, t, t1', t2, tr, v2, v3, v4⟩
    · have he : ent A e st = e.2 :: st := by unfold ent; rw [if_pos e0]
      have hc : cce e = 100 + e.2 := by unfold cce; rw [if_pos e0]
      rw [if_pos (Or.inl e0)] at hl
      rw [hc, if_neg (by omega), if_neg (by omega), if_neg (by omega), w32_id (x := 100 + e.2 - 100) (by omega) (by omega), show 100 + e.2 - 100 = e.2 by omega, wr_ok (by omega) (by omega), Option.bind_some, w32_id (by omega) (by omega), w32_id (by omega) (by omega)]
      rw [he] at fin
      exact fin _ (SR_push hS) (fun a ha => upf _ _ a ha) (by rw [List.length_cons]; omega)
    · have he : ent A e st = A e.2 :: st := by unfold ent; rw [if_neg (by omega), if_pos e0]
      have hc : cce e = 20 + e.2 := by unfold cce; rw [if_neg (by omega), if_pos e0]
      rw [if_pos (Or.inr e0)] at hl
      rw [hc, if_neg (by omega), if_neg (by omega), if_pos (by omega), w32_id (x := 20 + e.2 - 20) (by omega) (by omega), show 20 + e.2 - 20 = e.2 by omega, hval s hf e.2 v1 v2, Option.bind_some, wr_ok (by omega) (by omega), Option.bind_some, w32_id (by omega) (by omega), w32_id (by omega) (by omega)]
      rw [he] at fin
      exact fin _ (SR_push hS) (fun a ha => upf _ _ a ha) (by rw [List.length_cons]; omega)
    · subst v1
      have he : ent A e (x :: r) = w64 (1 - x) :: r := by unfold ent; rw [if_neg (by omega), if_neg (by omega), if_pos e0]
      have hc : cce e = 3 := by unfold cce; rw [if_neg (by omega), if_neg (by omega), e0]; rfl
      rw [List.length_cons] at hl
      rw [if_neg (by omega)] at hl
      rw [hc, if_pos (by omega), if_pos rfl, List.length_cons, if_neg (by omega), show ((r.length + 1 : Nat) : Int) - 1 = r.length by omega, w32_id (x := (r.length : Int)) (by omega) (by omega), rd_ok (by omega) (by omega), Option.bind_some, hS.1]
      rw [he, List.length_cons] at fin
      rcases v2 with rfl | rfl
      · rw [if_pos rfl, wr_ok (by omega) (by omega), Option.bind_some, w32_id (by omega) (by omega)]
        exact fin _ (SR_push hS.2) (fun a ha => upf _ _ a ha) (by omega)
      · rw [if_neg (by omega), wr_ok (by omega) (by omega), Option.bind_some, w32_id (by omega) (by omega)]
        exact fin _ (SR_push hS.2) (fun a ha => upf _ _ a ha) (by omega)
    · subst v1
      have n0 : ¬ e.1 = 0 := by unfold isOp at e0; omega
      have n1 : ¬ e.1 = 1 := by unfold isOp at e0; omega
      have n9 : ¬ e.1 = 9 := by unfold isOp at e0; omega
      have he : ent A e (x :: y :: r) = opv e.1 y x :: r := by unfold ent; rw [if_neg n0, if_neg n1, if_neg n9]
      have hc : cce e = cop e.1 := by unfold cce; rw [if_neg n0, if_neg n1]
      obtain ⟨c1, c2, c3⟩ := cop_lt e0
      rw [List.length_cons, List.length_cons] at hl
      rw [if_neg (by omega)] at hl
      have hx : s (ql + 1) ((r.length : Int) + 1) = x := hS.1
      rw [hc, if_pos (by omega), if_neg c3, List.length_cons, List.length_cons, if_neg (by omega), show ((r.length + 1 + 1 : Nat) : Int) + -1 = r.length + 1 by omega, w32_id (x := (r.length : Int) + 1) (by omega) (by omega), show (r.length : Int) + 1 - 1 = r.length by omega, w32_id (x := (r.length : Int)) (by omega) (by omega), rd_ok (by omega) (by omega), Option.bind_some, rd_ok (by omega) (by omega), Option.bind_some, hS.2.1, hx, FX3_combine_ok e0, Option.bind_some, wr_ok (by omega) (by omega), Option.bind_some, w32_id (by omega) (by omega)]
      rw [he, List.length_cons] at fin
      exact fin _ (SR_push hS.2.2) (fun a ha => upf _ _ a ha) (by omega)
/-- what a whole rule is turned into by the class -/
def rco : List (List (Int × Int)) → List (Int × Int)
  | [] => []
  | c :: cs => c ++ (cs.map (fun d => d ++ [((11 : Int), (0 : Int))])).flatten
def goodC (c : List (Int × Int)) : Prop := tyl c [] = some [true]
theorem evl_one {A : Int → Int} {c : List (Int × Int)} (h : goodC c) : ∃ v, evl A c [] = [v] ∧ (v = 0 ∨ v = 1) := by
  have := evl_vok (A := A) c [] [true] [] h trivial
  generalize evl A c [] = st at this
  match st, this with
  | [v], h => exact ⟨v, rfl, h.1 rfl⟩
/-- entries on top of what lies there -/
theorem ent_base {A : Int → Int} {e : Int × Int} {ty ty' tb : List Bool} {st sb : List Int} (h : tye e ty = some ty') (hv : vok st ty) : tye e (ty ++ tb) = some (ty' ++ tb) ∧ ent A e (st ++ sb) = ent A e st ++ sb := by
  rcases tye_cases h hv with ⟨e0, v1, v2, v3⟩ | ⟨e0, v1, v2, v3⟩ | ⟨e0, x, r, v1, v2, v3⟩ | ⟨e0, x, y, r, v1, t, t1', t2, tr, v2, v3, v4⟩
  · subst v3; unfold tye ent; rw [if_pos e0, if_pos ⟨v1, v2⟩, if_pos e0, if_pos e0]; exact ⟨rfl, rfl⟩
  · subst v3; unfold tye ent; rw [if_neg (by omega), if_pos e0, if_pos ⟨v1, v2⟩, if_neg (by omega), if_pos e0, if_neg (by omega), if_pos e0]; exact ⟨rfl, rfl⟩
  · subst v1; subst v3
    refine ⟨?_, ?_⟩
    · unfold tye at h ⊢
      rw [if_neg (by omega), if_neg (by omega), if_pos e0] at h ⊢
      split at h
      · rfl
      · cases h
    · unfold ent; rw [if_neg (by omega), if_neg (by omega), if_pos e0, if_neg (by omega), if_neg (by omega), if_pos e0]; rfl
  · subst v1; subst v2; subst v3
    have n0 : ¬ e.1 = 0 := by unfold isOp at e0; omega
    have n1 : ¬ e.1 = 1 := by unfold isOp at e0; omega
    have n9 : ¬ e.1 = 9 := by unfold isOp at e0; omega
    refine ⟨?_, ?_⟩
    · unfold tye at h ⊢
      rw [if_neg n0, if_neg n1, if_neg n9] at h ⊢
      cases t1' <;> cases t2 <;> simp at h ⊢
      · split at h
        · next hh => rw [if_pos hh]; simp at h ⊢; first | exact h | exact h.symm
        · next hh =>
          rw [if_neg hh]
          simp at h ⊢
          exact ⟨h.1, h.2⟩
      · exact h
    · unfold ent; rw [if_neg n0, if_neg n1, if_neg n9, if_neg n0, if_neg n1, if_neg n9]; rfl
theorem evl_base {A : Int → Int} {tb : List Bool} {sb : List Int} : ∀ (es : List (Int × Int)) (ty ty' : List Bool) (st : List Int), tyl es ty = some ty' → vok st ty → tyl es (ty ++ tb) = some (ty' ++ tb) ∧ evl A es (st ++ sb) = evl A es st ++ sb
  | [], ty, ty', st, h, hv => by obtain rfl := Option.some.inj h; exact ⟨rfl, rfl⟩
  | e :: es, ty, ty', st, h, hv => by
    obtain ⟨t1, h1, h2⟩ := Option.bind_eq_some_iff.mp h
    obtain ⟨a1, a2⟩ := ent_base (A := A) (tb := tb) (sb := sb) h1 hv
    obtain ⟨b1, b2⟩ := evl_base (tb := tb) (sb := sb) es t1 ty' (ent A e st) h2 (ent_vok h1 hv)
    refine ⟨?_, ?_⟩
    · show (tye e (ty ++ tb)).bind (tyl es) = _
      rw [a1]; exact b1
    · show evl A es (ent A e (st ++ sb)) = evl A es (ent A e st) ++ sb
      rw [a2, b2]
def barR (A : Int → Int) (R : List (List (Int × Int))) : Bool := R.any (fun c => decide (evl A c [] = [1]))
theorem rest_ok {A : Int → Int} : ∀ (cs : List (List (Int × Int))) (v : Int), (∀ c ∈ cs, goodC c) → (v = 0 ∨ v = 1) → ∃ v', evl A ((cs.map (fun d => d ++ [((11 : Int), (0 : Int))])).flatten) [v] = [v'] ∧ (v' = 0 ∨ v' = 1) ∧ (v' = 1 ↔ v = 1 ∨ barR A cs = true) ∧ tyl ((cs.map (fun d => d ++ [((11 : Int), (0 : Int))])).flatten) [true] = some [true]
  | [], v, _, hv => ⟨v, rfl, hv, ⟨fun h => Or.inl h, fun h => by rcases h with h | h; exact h; cases h⟩, rfl⟩
  | c :: cs, v, hg, hv => by
    have hc := hg c (List.mem_cons_self)
    obtain ⟨u, hu, hu1⟩ := evl_one (A := A) hc
    obtain ⟨b1, b2⟩ := evl_base (A := A) (tb := [true]) (sb := [v]) c [] [true] [] hc trivial
    have hor := (bb_01 hv hu1).2
    have h1v : bOr v u = 1 ↔ v = 1 ∨ u = 1 := by rcases hv with rfl | rfl <;> rcases hu1 with rfl | rfl <;> decide
    obtain ⟨v', c1, c2, c3, c4⟩ := rest_ok cs (bOr v u) (fun d hd => hg d (List.mem_cons_of_mem _ hd)) hor
    have hb : barR A (c :: cs) = (decide (u = 1) || barR A cs) := by
      unfold barR; rw [List.any_cons, hu]; simp
    refine ⟨v', ?_, c2, ?_, ?_⟩
    · rw [List.map_cons, List.flatten_cons, evl_app, evl_app]
      have : evl A c [v] = [u, v] := by have := b2; rw [hu] at this; exact this
      rw [this]
      exact c1
    · rw [c3, h1v, hb]
      simp
      constructor
      · rintro ((h | h) | h)
        · exact Or.inl h
        · exact Or.inr (Or.inl h)
        · exact Or.inr (Or.inr h)
      · rintro (h | h | h)
        · exact Or.inl (Or.inl h)
        · exact Or.inl (Or.inr h)
        · exact Or.inr h
    · rw [List.map_cons, List.flatten_cons, tyl_app, tyl_app]
      have : tyl c [true] = some [true, true] := b1
      rw [this]
      exact c4
theorem rco_ok {A : Int → Int} {R : List (List (Int × Int))} (hn : R ≠ []) (hg : ∀ c ∈ R, goodC c) : ∃ v, evl A (rco R) [] = [v] ∧ (v = 0 ∨ v = 1) ∧ (v = 1 ↔ barR A R = true) ∧ tyl (rco R) [] = some [true] := by
  match R, hn with
  | c :: cs, _ =>
    have hc := hg c (List.mem_cons_self)
    obtain ⟨u, hu, hu1⟩ := evl_one (A := A) hc
    obtain ⟨v', c1, c2, c3, c4⟩ := rest_ok (A := A) cs u (fun d hd => hg d (List.mem_cons_of_mem _ hd)) hu1
    refine ⟨v', ?_, c2, ?_, ?_⟩
    · show evl A (c ++ _) [] = _
      rw [evl_app, hu]; exact c1
    · rw [c3]
      unfold barR; rw [List.any_cons, hu]; simp
    · show tyl (c ++ _) [] = _
      rw [tyl_app, hc]; exact c4
theorem FX3_isBarred_ok {N ql q : Nat} {walk : Int} {A : Int → Int} {s : iv_M} {R : List (List (Int × Int))} (hN : 1000 ≤ N) (hsh : (sh (ql + 1)).2 = 64) (hq : q ≠ ql + 1) (hr : s ql 2 = q) (hval : ∀ s', (∀ a, a ≠ ql + 1 → s' a = s a) → ∀ w, 0 ≤ w → w < 13 → FX3_valueOf N s' ql w walk = some (A w)) (hn : R ≠ []) (hg : ∀ c ∈ R, goodC c) (hE : CE s q 0 (rco R)) (hlen : (rco R).length ≤ 400) (hz : s q (rco R).length = 0) (hnv : nvs (rco R) ≤ 60) : ∃ s', FX3_isBarred N s ql walk = some (if barR A R = true then 1 else 0, s') ∧ ∀ a, a ≠ ql + 1 → s' a = s a := by
  obtain ⟨v, v1, v2, v3, v4⟩ := rco_ok (A := A) hn hg
  obtain ⟨M, hM⟩ : ∃ M, N = M + 1 + (rco R).length := ⟨N - 1 - (rco R).length, by omega⟩
  obtain ⟨s', a1, a2, a3⟩ := bar_l (kx := fun (s_648 : iv_M) (x649_2 : Int) => (FX3_isBarred_b164 N s_648 ql x649_2)) (s0 := s) hsh hq hr hval (rco R) (M + 1) s 0 [] [] [true] (fun a _ => rfl) hE v4 trivial trivial (by omega) (by omega) (by rw [List.length_nil]; omega)
  refine ⟨s', ?_, a3⟩
  unfold FX3_isBarred
  rw [← hM] at a1
  refine Eq.trans a1 ?_
  rw [v1]
  rw [v1] at a2
  have hql : s' ql 2 = (q : Int) := by rw [a3 ql (by omega)]; exact hr
  have hqn : (s' ql 2).toNat = q := by rw [hql]; rfl
  rw [FX3_isBarred_l4, if_neg (by omega), if_neg (by omega), if_neg (by omega), hqn, rd_ok (by omega) (by omega), Option.bind_some, show (0 : Int) + ((rco R).length : Int) = (rco R).length by omega, a3 q hq, if_pos hz]
  unfold FX3_isBarred_b164 FX3_isBarred_b185 FX3_isBarred_b186
  have h0 : s' (ql + 1) 0 = v := a2.1
  rw [show (([v] : List Int).length : Int) = 1 from rfl, if_neg (by omega), show (1 : Int) - 1 = 0 by omega, w32_id (by omega) (by omega), rd_ok (by omega) (by omega), Option.bind_some, h0]
  rcases v2 with rfl | rfl
  · rw [if_pos rfl, if_neg (show ¬ barR A R = true from fun z => by have := v3.mpr z; omega)]; rfl
  · rw [if_neg (by omega), if_pos (v3.mp rfl)]; rfl
-- the reference
def RC (s : iv_M) (f : Int) : Int → Int → List (List (Int × Int)) → Prop
  | _, _, [] => True
  | n, p, c :: cs => s 143 (12 * f + n) = p ∧ s 144 (12 * f + n) = p + c.length ∧ EN s f p c ∧ RC s f (n + 1) (p + c.length) cs
theorem RC_ext {s s' : iv_M} {f : Int} (h0 : s' 140 = s 140) (h1 : s' 141 = s 141) (h2 : s' 143 = s 143) (h3 : s' 144 = s 144) : ∀ (R : List (List (Int × Int))) (n p : Int), RC s f n p R → RC s' f n p R
  | [], _, _, _ => trivial
  | c :: cs, n, p, h => ⟨by rw [h2]; exact h.1, by rw [h3]; exact h.2.1, EN_ext h0 h1 c p h.2.2.1, RC_ext h0 h1 h2 h3 cs (n + 1) (p + c.length) h.2.2.2⟩
theorem FX12_answer_ok {N : Nat} {s : iv_M} {f p : Int} {c : List (Int × Int)} (hN : 1000 ≤ N) (f0 : 0 ≤ f) (f1 : f < 6) (hE : EN s f p c) (hg : goodC c) (p0 : 0 ≤ p) (p1 : p + c.length ≤ 300) : ∃ s' v, FX12_answer N s 113 f p (p + c.length) = some (v, s') ∧ evl (s 146) c [] = [v] ∧ ∀ a, a ≠ 147 → s' a = s a := by
  obtain ⟨v, v1, v2⟩ := evl_one (A := s 146) hg
  obtain ⟨s', a1, a2, a3⟩ := ans_l (N := N) (kx := fun (s_3056 : iv_M) => ((rd s_3056 (113 + 34) 300 0).bind fun v_3058 => (some (v_3058, s_3056)))) f0 f1 c N s p [] [] [true] hE hg trivial trivial p0 p1 (by rw [List.length_nil]; omega) (by omega)
  refine ⟨s', v, ?_, v1, a3⟩
  unfold FX12_answer
  have a1 : FX12_answer_l6 N 113 f (p + c.length) (fun (s_3056 : iv_M) => ((rd s_3056 (113 + 34) 300 0).bind fun v_3058 => (some (v_3058, s_3056)))) N s 0 p = _ := a1
  rw [a1]
  rw [v1] at a2
  have h0 : s' 147 0 = v := a2.1
  simp only [Nat.reduceAdd]
  rw [rd_ok (by omega) (by omega), Option.bind_some, h0]
theorem ref_bar {N : Nat} {f : Int} {A : Int → Int} {m : Int} (hN : 1000 ≤ N) (f0 : 0 ≤ f) (f1 : f < 6) (m1 : m ≤ 12) : ∀ (R : List (List (Int × Int))) (k : Nat) (s : iv_M) (n p : Int), RC s f n p R → (∀ c ∈ R, goodC c) → 0 ≤ n → n + R.length = m → s 142 f = m → 0 ≤ p → p + R.flatten.length ≤ 300 → R.length < k → s 146 = A → ∃ s', FX12_isBarred_l232 N 113 f (fun (s_3188 : iv_M) => (some (0, s_3188))) k s (12 * f + n) = some (if barR A R = true then 1 else 0, s') ∧ ∀ a, a ≠ 147 → s' a = s a := by
  intro R
  induction R with
  | nil =>
    intro k s n p hR hg n0 n1 hm p0 p1 hk hA
    obtain ⟨k, rfl⟩ : ∃ j, k = j + 1 := ⟨k - 1, by simp at hk; omega⟩
    rw [List.length_nil] at n1
    refine ⟨s, ?_, fun a _ => rfl⟩
    rw [FX12_isBarred_l232]
    simp only [Nat.reduceAdd]
    rw [rd_ok f0 f1, Option.bind_some, hm, w32_id (x := 12 * f) (by omega) (by omega), w32_id (by omega) (by omega), if_pos (by omega)]
    rfl
  | cons c cs ih =>
    intro k s n p hR hg n0 n1 hm p0 p1 hk hA
    obtain ⟨k, rfl⟩ : ∃ j, k = j + 1 := ⟨k - 1, by simp at hk; omega⟩
    rw [List.length_cons] at n1 hk
    rw [List.flatten_cons, List.length_append] at p1
    obtain ⟨s', v, a1, a2, a3⟩ := FX12_answer_ok hN f0 f1 hR.2.2.1 (hg c (List.mem_cons_self)) p0 (by omega)
    have hb : barR A (c :: cs) = (decide (v = 1) || barR A cs) := by
      rw [hA] at a2
      unfold barR; rw [List.any_cons, a2]; simp
    rw [FX12_isBarred_l232]
    simp only [Nat.reduceAdd]
    rw [rd_ok f0 f1, Option.bind_some, hm, w32_id (x := 12 * f) (by omega) (by omega), w32_id (x := 12 * f + m) (by omega) (by omega), if_neg (by omega), rd_ok (by omega) (by omega), Option.bind_some, rd_ok (by omega) (by omega), Option.bind_some, hR.1, hR.2.1, a1, Option.bind_some]
    by_cases hv : v = 1
    · rw [if_pos hv, if_pos (by rw [hb]; simp [hv])]
      exact ⟨s', rfl, a3⟩
    · rw [if_neg hv, w32_id (by omega) (by omega), show 12 * f + n + 1 = 12 * f + (n + 1) by omega]
      obtain ⟨s2, b1, b2⟩ := ih k s' (n + 1) (p + c.length) (RC_ext (a3 140 (by omega)) (a3 141 (by omega)) (a3 143 (by omega)) (a3 144 (by omega)) cs _ _ hR.2.2.2) (fun d hd => hg d (List.mem_cons_of_mem _ hd)) (by omega) (by omega) (by rw [a3 142 (by omega)]; exact hm) (by omega) (by omega) (by omega) (by rw [a3 146 (by omega)]; exact hA)
      refine ⟨s2, ?_, fun a ha => (b2 a ha).trans (a3 a ha)⟩
      rw [b1, hb]
      simp [hv]
