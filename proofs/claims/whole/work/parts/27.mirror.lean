-- WHAT MIRRORS ARE MADE OF: weaker locals, reads, writes, calls
def iv_lle (A B : iv_L) : Prop := A.length = B.length ∧ ∀ (j : Nat) (v : Value), A[j]? = some (some v) → B[j]? = some (some v)
theorem ll_e : iv_lle [] [] := ⟨rfl, fun j v h => h⟩
theorem ll_n {A B : iv_L} {o : Option Value} (h : iv_lle A B) : iv_lle (none :: A) (o :: B) := ⟨by rw [List.length_cons, List.length_cons, h.1], fun j v hj => by
  cases j with
  | zero => cases hj
  | succ j => exact h.2 j v hj⟩
theorem ll_s {A B : iv_L} {v : Value} (h : iv_lle A B) : iv_lle (some v :: A) (some v :: B) := ⟨by rw [List.length_cons, List.length_cons, h.1], fun j w hj => by
  cases j with
  | zero => exact hj
  | succ j => exact h.2 j w hj⟩
theorem iv_lle_set {A B : iv_L} {k : Nat} {o : Option Value} (h : iv_lle A B) : iv_lle (A.set k o) (B.set k o) := by
  refine ⟨by rw [List.length_set, List.length_set, h.1], fun j v hj => ?_⟩
  by_cases e : j = k
  · subst e
    have hl := (List.getElem?_eq_some_iff.mp hj).1
    rw [List.length_set] at hl
    rw [List.getElem?_set_self hl] at hj
    rw [List.getElem?_set_self (by rw [← h.1]; exact hl)]
    exact hj
  · rw [List.getElem?_set_ne (Ne.symm e)] at hj ⊢
    exact h.2 j v hj
theorem iv_lle_clr {A B : iv_L} {k : Nat} (h : iv_lle A B) : iv_lle (iv_clr A k) (iv_clr B k) := by
  refine ⟨by rw [iv_clr_len, iv_clr_len, h.1], fun j v hj => ?_⟩
  obtain ⟨h1, h2⟩ := iv_clr_at hj
  have h3 := h.2 j v h1
  cases k with
  | zero => exact h3
  | succ i =>
    unfold iv_clr
    dsimp only
    split
    · next w hw =>
      split
      · next hc =>
        by_cases e : j = i
        · subst e
          rw [hw] at h3
          cases h3
          exact absurd ⟨rfl, hc⟩ h2
        · rw [List.getElem?_set_ne (Ne.symm e)]
          exact h3
      · exact h3
    · exact h3
theorem iv_loc_lle {i : Instr} {A B A' : iv_L} {st st' : List Value} (h : iv_lle A B) (e : iv_loc i A st = some (A', st')) : ∃ B', iv_loc i B st = some (B', st') ∧ iv_lle A' B' := by
  unfold iv_loc at e ⊢
  have hI : ∀ {k : Nat}, iv_ldI A k st = some (A', st') → ∃ B', iv_ldI B k st = some (B', st') ∧ iv_lle A' B' := by
    intro k e
    obtain ⟨x, h1, rfl, rfl⟩ := iv_ldI_ok e
    exact ⟨B, by unfold iv_ldI; rw [h.2 _ _ h1], h⟩
  have hJ : ∀ {k : Nat}, iv_ldJ A k st = some (A', st') → ∃ B', iv_ldJ B k st = some (B', st') ∧ iv_lle A' B' := by
    intro k e
    obtain ⟨x, h1, rfl, rfl⟩ := iv_ldJ_ok e
    exact ⟨B, by unfold iv_ldJ; rw [h.2 _ _ h1], h⟩
  have hA : ∀ {k : Nat}, iv_ldA A k st = some (A', st') → ∃ B', iv_ldA B k st = some (B', st') ∧ iv_lle A' B' := by
    intro k e
    obtain ⟨rfl, ⟨x, h1, rfl⟩ | ⟨h1, rfl⟩⟩ := iv_ldA_ok e
    · exact ⟨B, by unfold iv_ldA; rw [h.2 _ _ h1], h⟩
    · exact ⟨B, by unfold iv_ldA; rw [h.2 _ _ h1], h⟩
  have sI : ∀ {k : Nat}, iv_stI A k st = some (A', st') → ∃ B', iv_stI B k st = some (B', st') ∧ iv_lle A' B' := by
    intro k e
    obtain ⟨x, rfl, h1, rfl⟩ := iv_stI_ok e
    exact ⟨iv_s1 B k (.int x), by unfold iv_stI; dsimp only; rw [if_pos (by rw [← h.1]; exact h1)], iv_lle_set (iv_lle_clr h)⟩
  have sJ : ∀ {k : Nat}, iv_stJ A k st = some (A', st') → ∃ B', iv_stJ B k st = some (B', st') ∧ iv_lle A' B' := by
    intro k e
    obtain ⟨x, rfl, h1, rfl⟩ := iv_stJ_ok e
    exact ⟨iv_s2 B k (.long x), by unfold iv_stJ; dsimp only; rw [if_pos (by rw [← h.1]; exact h1)], iv_lle_set (iv_lle_set (iv_lle_clr h))⟩
  have sA : ∀ {k : Nat}, iv_stA A k st = some (A', st') → ∃ B', iv_stA B k st = some (B', st') ∧ iv_lle A' B' := by
    intro k e
    obtain ⟨h1, ⟨x, rfl, rfl⟩ | ⟨rfl, rfl⟩⟩ := iv_stA_ok e
    · exact ⟨iv_s1 B k (.ref x), by unfold iv_stA; dsimp only; rw [if_pos (by rw [← h.1]; exact h1)], iv_lle_set (iv_lle_clr h)⟩
    · exact ⟨iv_s1 B k .null, by unfold iv_stA; dsimp only; rw [if_pos (by rw [← h.1]; exact h1)], iv_lle_set (iv_lle_clr h)⟩
  cases i <;> dsimp only at e ⊢ <;> first | (cases e; done) | exact hI e | exact hJ e | exact hA e | exact sI e | exact sJ e | exact sA e | skip
  case iinc k n =>
    unfold iv_inc at e ⊢
    split at e
    · next x h1 =>
      cases e
      rw [h.2 _ _ h1]
      exact ⟨_, rfl, iv_lle_set (iv_lle_clr h)⟩
    · cases e
theorem iv_ex_lle {call : iv_Cl} {mi : Nat} {rt : Option FieldType} : ∀ (F pc : Nat) (A B : iv_L) (st : List Value) (h : iv_H) (x : Option Value × iv_H), iv_lle A B → iv_ex PG iv_df call mi rt F pc A st h = some x → iv_ex PG iv_df call mi rt F pc B st h = some x := by
  intro F
  induction F with
  | zero => intro pc A B st h x _ hh; cases hh
  | succ F ih =>
    intro pc A B st h x hl hh
    unfold iv_ex at hh ⊢
    split at hh
    · cases hh
    · next i nx a b sw hf =>
      try rw [hf]
      try dsimp only
      split at hh
      · next hk =>
        try simp only [hk]
        obtain ⟨q, hq, hh⟩ := Option.bind_eq_some_iff.mp hh
        rw [hq, Option.bind_some]
        exact ih _ _ _ _ _ _ hl hh
      · next hk =>
        try simp only [hk]
        obtain ⟨⟨A', st'⟩, hq, hh⟩ := Option.bind_eq_some_iff.mp hh
        obtain ⟨B', hb, hl'⟩ := iv_loc_lle hl hq
        rw [hb, Option.bind_some]
        exact ih _ _ _ _ _ _ hl' hh
      · next hk =>
        try simp only [hk]
        obtain ⟨q, hq, hh⟩ := Option.bind_eq_some_iff.mp hh
        rw [hq, Option.bind_some]
        split at hh
        · next hg => rw [if_pos hg]; exact ih _ _ _ _ _ _ hl hh
        · next hg => rw [if_neg hg]; exact ih _ _ _ _ _ _ hl hh
      · next hk =>
        try simp only [hk]
        obtain ⟨q, hq, hh⟩ := Option.bind_eq_some_iff.mp hh
        rw [hq, Option.bind_some]
        exact ih _ _ _ _ _ _ hl hh
      · next hk => (try simp only [hk]); exact ih _ _ _ _ _ _ hl hh
      · next hk =>
        try simp only [hk]
        split at hh
        · exact ih _ _ _ _ _ _ hl hh
        · cases hh
      · next hk =>
        try simp only [hk]
        obtain ⟨q, hq, hh⟩ := Option.bind_eq_some_iff.mp hh
        rw [hq, Option.bind_some]
        split at hh
        · next hg =>
          rw [if_pos hg]
          obtain ⟨z, hz, hh⟩ := Option.bind_eq_some_iff.mp hh
          rw [hz, Option.bind_some]
          exact ih _ _ _ _ _ _ hl hh
        · cases hh
      · exact hh
theorem Rn.weak {d mi pc : Nat} {rt : Option FieldType} {A B : iv_L} {st : List Value} {h : iv_H} {Q : Option Value → iv_H → Prop} (hl : iv_lle A B) (k : Rn d mi rt pc A st h Q) : Rn d mi rt pc B st h Q := by
  obtain ⟨F, r, h', h1, h2⟩ := k
  exact ⟨F, r, h', iv_ex_lle F pc A B st h _ hl h1, h2⟩
/-- a branch goes, by what is known -/
theorem Rn.bt {d mi pc nx a b : Nat} {rt : Option FieldType} {L : iv_L} {st st' : List Value} {h : iv_H} {Q : Option Value → iv_H → Prop} {t : List iv_R} {i : Instr} {sw : List (Int × Nat)} {g : Bool} (hP : iv_Tb mi t) (hl : iv_lk pc t = some (i, nx, a, b, sw)) (hk : iv_kd i a = 2) (hb : iv_br i st = some (g, st')) (hg : g = true) (k : Rn d mi rt a L st' h Q) : Rn d mi rt pc L st h Q := Rn.br hP hl hk hb (fun _ => k) (fun z => absurd (z.symm.trans hg) (by decide))
theorem Rn.bf {d mi pc nx a b : Nat} {rt : Option FieldType} {L : iv_L} {st st' : List Value} {h : iv_H} {Q : Option Value → iv_H → Prop} {t : List iv_R} {i : Instr} {sw : List (Int × Nat)} {g : Bool} (hP : iv_Tb mi t) (hl : iv_lk pc t = some (i, nx, a, b, sw)) (hk : iv_kd i a = 2) (hb : iv_br i st = some (g, st')) (hg : g = false) (k : Rn d mi rt nx L st' h Q) : Rn d mi rt pc L st h Q := Rn.br hP hl hk hb (fun z => absurd (hg.symm.trans z) (by decide)) (fun _ => k)
