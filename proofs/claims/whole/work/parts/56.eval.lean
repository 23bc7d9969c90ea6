-- RULES ARE ANSWERED: entries (sort, number) in the reference's numbers, with a stack
def opv (k a b : Int) : Int := if k = 2 then w64 (a + b) else if k = 3 then w64 (a - b) else if k = 4 then (if b ≤ a then 0 else 1) else if k = 5 then (if b < a then 0 else 1) else if k = 6 then (if a = b then 1 else 0) else if k = 7 then (if a < b then 0 else 1) else if k = 8 then (if a ≤ b then 0 else 1) else if k = 10 then bAn a b else if k = 13 then w64 (a * b) else if k = 14 then (if b = 0 then 0 else dv64 a b) else if k = 15 then (if b = 0 then 0 else Int.tmod a b) else bOr a b
def cop (k : Int) : Int := if k = 2 then 9 else if k = 3 then 10 else if k = 9 then 3 else if k = 10 then 2 else if k = 11 then 1 else if k = 13 then 11 else if k = 14 then 12 else if k = 15 then 13 else k
def cce (e : Int × Int) : Int := if e.1 = 0 then 100 + e.2 else if e.1 = 1 then 20 + e.2 else cop e.1
abbrev isOp (k : Int) : Prop := (2 ≤ k ∧ k ≤ 8) ∨ k = 10 ∨ k = 11 ∨ (13 ≤ k ∧ k ≤ 15)
theorem FX12_both_ok {N : Nat} {s : iv_M} {k a b : Int} (h : isOp k) : FX12_both N s k a b = some (opv k a b) := by
  have : k = 2 ∨ k = 3 ∨ k = 4 ∨ k = 5 ∨ k = 6 ∨ k = 7 ∨ k = 8 ∨ k = 10 ∨ k = 11 ∨ k = 13 ∨ k = 14 ∨ k = 15 := by unfold isOp at h; omega
  unfold FX12_both FX12_both_b123 FX12_both_b138 FX12_both_b153 FX12_both_b168 FX12_both_b183 FX12_both_b97 FX12_both_b111 FX12_truth FX12_truth_b9 opv
  rcases this with rfl | rfl | rfl | rfl | rfl | rfl | rfl | rfl | rfl | rfl | rfl | rfl <;> simp <;> (try (split <;> simp_all))
theorem FX3_combine_ok {N : Nat} {s : iv_M} {k a b : Int} (h : isOp k) : FX3_combine N s (cop k) a b = some (opv k a b) := by
  have : k = 2 ∨ k = 3 ∨ k = 4 ∨ k = 5 ∨ k = 6 ∨ k = 7 ∨ k = 8 ∨ k = 10 ∨ k = 11 ∨ k = 13 ∨ k = 14 ∨ k = 15 := by unfold isOp at h; omega
  unfold FX3_combine FX3_combine_b83 FX3_combine_b95 FX3_combine_b107 FX3_combine_b119 FX3_combine_b131 FX3_combine_b157 FX3_combine_b171 opv
  rcases this with rfl | rfl | rfl | rfl | rfl | rfl | rfl | rfl | rfl | rfl | rfl | rfl <;> simp [cop] <;> (try (split <;> simp_all))
def ent (A : Int → Int) (e : Int × Int) (st : List Int) : List Int :=
  if e.1 = 0 then e.2 :: st else if e.1 = 1 then A e.2 :: st else if e.1 = 9 then (match st with
    | x :: r => w64 (1 - x) :: r
    | [] => []) else (match st with
    | x :: y :: r => opv e.1 y x :: r
    | _ => [])
def evl (A : Int → Int) : List (Int × Int) → List Int → List Int
  | [], st => st
  | e :: es, st => evl A es (ent A e st)
def tye (e : Int × Int) (ty : List Bool) : Option (List Bool) :=
  if e.1 = 0 then (if 0 ≤ e.2 ∧ e.2 ≤ 99999 then some (false :: ty) else none) else if e.1 = 1 then (if 0 ≤ e.2 ∧ e.2 < 13 then some (false :: ty) else none) else if e.1 = 9 then (match ty with
    | true :: r => some (true :: r)
    | _ => none) else (match ty with
    | true :: true :: r => if e.1 = 10 ∨ e.1 = 11 then some (true :: r) else none
    | false :: false :: r => if 4 ≤ e.1 ∧ e.1 ≤ 8 then some (true :: r) else if e.1 = 2 ∨ e.1 = 3 ∨ (13 ≤ e.1 ∧ e.1 ≤ 15) then some (false :: r) else none
    | _ => none)
def tyl : List (Int × Int) → List Bool → Option (List Bool)
  | [], ty => some ty
  | e :: es, ty => (tye e ty).bind (tyl es)
def vok : List Int → List Bool → Prop
  | [], [] => True
  | v :: st, t :: ty => (t = true → v = 0 ∨ v = 1) ∧ vok st ty
  | _, _ => False
theorem vok_len : ∀ (st : List Int) (ty : List Bool), vok st ty → st.length = ty.length
  | [], [], _ => rfl
  | _ :: st, _ :: ty, h => by rw [List.length_cons, List.length_cons, vok_len st ty h.2]
  | [], _ :: _, h => h.elim
  | _ :: _, [], h => h.elim
theorem bb_01 {a b : Int} (ha : a = 0 ∨ a = 1) (hb : b = 0 ∨ b = 1) : (bAn a b = 0 ∨ bAn a b = 1) ∧ (bOr a b = 0 ∨ bOr a b = 1) := by
  rcases ha with rfl | rfl <;> rcases hb with rfl | rfl <;> decide
/-- the cases of a typed step -/
theorem tye_cases {e : Int × Int} {ty ty' : List Bool} {st : List Int} (h : tye e ty = some ty') (hv : vok st ty) :
    (e.1 = 0 ∧ 0 ≤ e.2 ∧ e.2 ≤ 99999 ∧ ty' = false :: ty) ∨ (e.1 = 1 ∧ 0 ≤ e.2 ∧ e.2 < 13 ∧ ty' = false :: ty) ∨
    (e.1 = 9 ∧ ∃ x r, st = x :: r ∧ (x = 0 ∨ x = 1) ∧ ty' = ty) ∨
    (isOp e.1 ∧ ∃ x y r, st = x :: y :: r ∧ ∃ t t1 t2 tr, ty = t1 :: t2 :: tr ∧ ty' = t :: tr ∧ (t = true → opv e.1 y x = 0 ∨ opv e.1 y x = 1)) := by
  unfold tye at h
  by_cases e0 : e.1 = 0
  · rw [if_pos e0] at h
    split at h
    · next hh => left; exact ⟨e0, hh.1, hh.2, (Option.some.inj h).symm⟩
    · cases h
  rw [if_neg e0] at h
  by_cases e1 : e.1 = 1
  · rw [if_pos e1] at h
    split at h
    · next hh => right; left; exact ⟨e1, hh.1, hh.2, (Option.some.inj h).symm⟩
    · cases h
  rw [if_neg e1] at h
  by_cases e9 : e.1 = 9
  · rw [if_pos e9] at h
    split at h
    · next r =>
      right; right; left
      match st, hv with
      | x :: s, hv => exact ⟨e9, x, s, rfl, hv.1 rfl, (Option.some.inj h).symm⟩
    · cases h
  rw [if_neg e9] at h
  split at h
  · next tr =>
    split at h
    · next hh =>
      right; right; right
      match st, hv with
      | x :: y :: s, hv =>
        refine ⟨by unfold isOp; omega, x, y, s, rfl, true, true, true, tr, rfl, (Option.some.inj h).symm, fun _ => ?_⟩
        have hb := bb_01 (hv.2.1 rfl) (hv.1 rfl)
        unfold opv
        rcases hh with hh | hh <;> simp [hh]
        · exact hb.1
        · exact hb.2
      | [x], hv => exact hv.2.elim
    · cases h
  · next tr =>
    match st, hv with
    | [x], hv => exact hv.2.elim
    | x :: y :: s, hv =>
      split at h
      · next hh =>
        right; right; right
        refine ⟨by unfold isOp; omega, x, y, s, rfl, true, false, false, tr, rfl, (Option.some.inj h).symm, fun _ => ?_⟩
        have : e.1 = 4 ∨ e.1 = 5 ∨ e.1 = 6 ∨ e.1 = 7 ∨ e.1 = 8 := by omega
        unfold opv
        rcases this with hh | hh | hh | hh | hh <;> simp [hh] <;> omega
      · split at h
        · next hh =>
          right; right; right
          exact ⟨by unfold isOp; omega, x, y, s, rfl, false, false, false, tr, rfl, (Option.some.inj h).symm, fun z => by cases z⟩
        · cases h
  · cases h
theorem ent_vok {A : Int → Int} {e : Int × Int} {ty ty' : List Bool} {st : List Int} (h : tye e ty = some ty') (hv : vok st ty) : vok (ent A e st) ty' := by
  rcases tye_cases h hv with ⟨e0, h1, h2, h3⟩ | ⟨e0, h1, h2, h3⟩ | ⟨e0, x, r, h1, h2, h3⟩ | ⟨e0, x, y, r, h1, t, t1, t2, tr, h2, h3, h4⟩
  · subst h3; unfold ent; rw [if_pos e0]; exact ⟨fun z => by (cases z), hv⟩
  · subst h3; unfold ent; rw [if_neg (by omega), if_pos e0]; exact ⟨fun z => by (cases z), hv⟩
  · subst h1; subst h3
    unfold ent; rw [if_neg (by omega), if_neg (by omega), if_pos e0]
    match ty', hv with
    | t :: tr, hv => exact ⟨fun _ => by rcases h2 with rfl | rfl <;> decide, hv.2⟩
  · subst h1; subst h2; subst h3
    unfold ent
    have n0 : ¬ e.1 = 0 := by unfold isOp at e0; omega
    have n1 : ¬ e.1 = 1 := by unfold isOp at e0; omega
    have n9 : ¬ e.1 = 9 := by unfold isOp at e0; omega
    rw [if_neg n0, if_neg n1, if_neg n9]
    exact ⟨h4, hv.2.2⟩
theorem evl_vok {A : Int → Int} : ∀ (es : List (Int × Int)) (ty ty' : List Bool) (st : List Int), tyl es ty = some ty' → vok st ty → vok (evl A es st) ty'
  | [], ty, ty', st, h, hv => by obtain rfl := Option.some.inj h; exact hv
  | e :: es, ty, ty', st, h, hv => by
    obtain ⟨t1, h1, h2⟩ := Option.bind_eq_some_iff.mp h
    exact evl_vok es t1 ty' (ent A e st) h2 (ent_vok h1 hv)
theorem tyl_app : ∀ (es fs : List (Int × Int)) (ty : List Bool), tyl (es ++ fs) ty = (tyl es ty).bind (tyl fs)
  | [], fs, ty => rfl
  | e :: es, fs, ty => by
    show (tye e ty).bind (tyl (es ++ fs)) = ((tye e ty).bind (tyl es)).bind (tyl fs)
    cases tye e ty with
    | none => rfl
    | some t => exact tyl_app es fs t
theorem evl_app {A : Int → Int} : ∀ (es fs : List (Int × Int)) (st : List Int), evl A (es ++ fs) st = evl A fs (evl A es st)
  | [], fs, st => rfl
  | e :: es, fs, st => evl_app es fs (ent A e st)
-- a stack in a row: the bottom at place 0
def SR (row : Int → Int) : List Int → Prop
  | [] => True
  | v :: r => row r.length = v ∧ SR row r
theorem SR_ext {row row' : Int → Int} : ∀ (st : List Int), (∀ i : Int, 0 ≤ i → i < st.length → row' i = row i) → SR row st → SR row' st
  | [], _, _ => trivial
  | v :: r, h, hs => ⟨by rw [h r.length (by omega) (by rw [List.length_cons]; omega)]; exact hs.1, SR_ext r (fun i i0 i1 => h i i0 (by rw [List.length_cons]; omega)) hs.2⟩
theorem SR_push {s : iv_M} {a : Nat} {st : List Int} {v : Int} (h : SR (s a) st) : SR (mu s a st.length v a) (v :: st) :=
  ⟨mu_eq, SR_ext st (fun i i0 i1 => mu_ne (by omega)) h⟩
def EN (s : iv_M) (w : Int) : Int → List (Int × Int) → Prop
  | _, [] => True
  | i, e :: es => s 140 (300 * w + i) = e.1 ∧ s 141 (300 * w + i) = e.2 ∧ EN s w (i + 1) es
theorem EN_ext {s s' : iv_M} {w : Int} (h0 : s' 140 = s 140) (h1 : s' 141 = s 141) : ∀ (es : List (Int × Int)) (i : Int), EN s w i es → EN s' w i es
  | [], _, _ => trivial
  | e :: es, i, h => ⟨by rw [h0]; exact h.1, by rw [h1]; exact h.2.1, EN_ext h0 h1 es (i + 1) h.2.2⟩
theorem ans_l {N : Nat} {w : Int} {kx : iv_M → Option (Int × iv_M)} (w0 : 0 ≤ w) (w1 : w < 6) : ∀ (es : List (Int × Int)) (n : Nat) (s : iv_M) (i : Int) (st : List Int) (ty ty' : List Bool), EN s w i es → tyl es ty = some ty' → vok st ty → SR (s 147) st → 0 ≤ i → i + es.length ≤ 300 → st.length + es.length ≤ 300 → es.length < n → ∃ s', FX12_answer_l6 N 113 w (i + es.length) kx n s st.length i = kx s' ∧ SR (s' 147) (evl (s 146) es st) ∧ ∀ a, a ≠ 147 → s' a = s a := by
  intro es
  induction es with
  | nil =>
    intro n s i st ty ty' hE hT hv hS i0 i1 hl hn
    obtain ⟨n, rfl⟩ : ∃ k, n = k + 1 := ⟨n - 1, by simp at hn; omega⟩
    refine ⟨s, ?_, hS, fun a _ => rfl⟩
    rw [FX12_answer_l6, if_pos (by simp)]
  | cons e es ih =>
    intro n s i st ty ty' hE hT hv hS i0 i1 hl hn
    obtain ⟨n, rfl⟩ : ∃ k, n = k + 1 := ⟨n - 1, by simp at hn; omega⟩
    obtain ⟨t1, h1, h2⟩ := Option.bind_eq_some_iff.mp hT
    rw [List.length_cons] at i1 hl hn
    have hlen : i + ((e :: es).length : Int) = i + 1 + (es.length : Int) := by rw [List.length_cons]; omega
    have fin : ∀ s1 : iv_M, SR (s1 147) (ent (s 146) e st) → (∀ a, a ≠ 147 → s1 a = s a) → (ent (s 146) e st).length + es.length ≤ 300 → ∃ s', FX12_answer_l6 N 113 w (i + 1 + es.length) kx n s1 (ent (s 146) e st).length (i + 1) = kx s' ∧ SR (s' 147) (evl (s 146) (e :: es) st) ∧ ∀ a, a ≠ 147 → s' a = s a := by
      intro s1 hs1 hf hle
      obtain ⟨s', a1, a2, a3⟩ := ih n s1 (i + 1) (ent (s 146) e st) t1 ty' (EN_ext (hf 140 (by omega)) (hf 141 (by omega)) es (i + 1) hE.2.2) h2 (ent_vok h1 hv) hs1 (by omega) (by omega) hle (by omega)
      rw [hf 146 (by omega)] at a2
      exact ⟨s', a1, a2, fun a ha => (a3 a ha).trans (hf a ha)⟩
    rw [hlen, FX12_answer_l6, if_neg (by omega), w32_id (x := 300 * w) (by omega) (by omega), w32_id (x := 300 * w + i) (by omega) (by omega)]
    simp only [Nat.reduceAdd]
    rw [rd_ok (by omega) (by omega), Option.bind_some, rd_ok (by omega) (by omega), Option.bind_some, hE.1, hE.2.1]
    unfold FX12_answer_b53 FX12_answer_b77 FX12_answer_b147
    simp only [Nat.reduceAdd]
    have h147 : ((sh 147).2 : Int) = 300 := by decide
    rw [h147]
    rcases tye_cases h1 hv with ⟨e0, v1, v2, v3⟩ | ⟨e0, v1, v2, v3⟩ | ⟨e0, x, r, v1, v2, v3⟩ | ⟨e0, x, y, r, v1, t, t1', t2, tr, v2, v3, v4⟩
    · have he : ent (s 146) e st = e.2 :: st := by unfold ent; rw [if_pos e0]
      rw [if_pos e0, if_pos e0, wr_ok (by omega) (by omega), Option.bind_some, w32_id (by omega) (by omega), w32_id (by omega) (by omega)]
      rw [he] at fin
      exact fin _ (SR_push hS) (fun a ha => by funext j; exact mu_ne (by omega)) (by rw [List.length_cons]; omega)
    · have he : ent (s 146) e st = s 146 e.2 :: st := by unfold ent; rw [if_neg (by omega), if_pos e0]
      rw [if_neg (by omega), if_pos e0, if_neg (by omega), rd_ok v1 (by omega), Option.bind_some, wr_ok (by omega) (by omega), Option.bind_some, w32_id (by omega) (by omega), w32_id (by omega) (by omega)]
      rw [he] at fin
      exact fin _ (SR_push hS) (fun a ha => by funext j; exact mu_ne (by omega)) (by rw [List.length_cons]; omega)
    · subst v1
      have he : ent (s 146) e (x :: r) = w64 (1 - x) :: r := by unfold ent; rw [if_neg (by omega), if_neg (by omega), if_pos e0]
      rw [List.length_cons] at hl
      rw [if_neg (by omega), if_neg (by omega), if_pos e0, List.length_cons, show ((r.length + 1 : Nat) : Int) - 1 = r.length by omega, w32_id (x := (r.length : Int)) (by omega) (by omega), rd_ok (by omega) (by omega), Option.bind_some, wr_ok (by omega) (by omega), Option.bind_some, w32_id (by omega) (by omega), hS.1]
      rw [he] at fin
      exact fin _ (SR_push hS.2) (fun a ha => by funext j; exact mu_ne (by omega)) (by rw [List.length_cons]; omega)
    · subst v1
      have n0 : ¬ e.1 = 0 := by unfold isOp at e0; omega
      have n1 : ¬ e.1 = 1 := by unfold isOp at e0; omega
      have n9 : ¬ e.1 = 9 := by unfold isOp at e0; omega
      have he : ent (s 146) e (x :: y :: r) = opv e.1 y x :: r := by unfold ent; rw [if_neg n0, if_neg n1, if_neg n9]
      rw [List.length_cons, List.length_cons] at hl
      have hx : s 147 ((r.length : Int) + 1) = x := hS.1
      rw [if_neg n0, if_neg n1, if_neg n9, List.length_cons, List.length_cons, show ((r.length + 1 + 1 : Nat) : Int) + -1 = r.length + 1 by omega, w32_id (x := (r.length : Int) + 1) (by omega) (by omega), show (r.length : Int) + 1 - 1 = r.length by omega, w32_id (x := (r.length : Int)) (by omega) (by omega), rd_ok (by omega) (by omega), Option.bind_some, rd_ok (by omega) (by omega), Option.bind_some, hS.2.1, hx, FX12_both_ok e0, Option.bind_some, wr_ok (by omega) (by omega), Option.bind_some, w32_id (by omega) (by omega)]
      rw [he, List.length_cons] at fin
      exact fin _ (SR_push hS.2.2) (fun a ha => by funext j; exact mu_ne (by omega)) (by omega)
