-- RUNS: more fuel, more depth change nothing
def iv_le (c1 c2 : iv_Cl) : Prop := ∀ a vs h x, c1 a vs h = some x → c2 a vs h = some x
theorem iv_ex_le {P : iv_Pg} {df : Nat → List Value} {c1 c2 : iv_Cl} {mi : Nat} {rt : Option FieldType} (hc : iv_le c1 c2) : ∀ (F F' pc : Nat) (L : iv_L) (st : List Value) (h : iv_H) (x : Option Value × iv_H), F ≤ F' → iv_ex P df c1 mi rt F pc L st h = some x → iv_ex P df c2 mi rt F' pc L st h = some x := by
  intro F
  induction F with
  | zero => intro F' pc L st h x _ hh; cases hh
  | succ F ih =>
    intro F' pc L st h x hF hh
    obtain ⟨F', rfl⟩ : ∃ k, F' = k + 1 := ⟨F' - 1, by omega⟩
    have hF : F ≤ F' := by omega
    unfold iv_ex at hh ⊢
    split at hh
    · cases hh
    · next i nx a b sw hf =>
      try rw [hf]
      try dsimp only
      split at hh
      · next hk => 
        try rw [hk]
        obtain ⟨q, hq, hh⟩ := Option.bind_eq_some_iff.mp hh
        try dsimp only
        rw [hq, Option.bind_some]
        exact ih _ _ _ _ _ _ hF hh
      · next hk =>
        try rw [hk]
        obtain ⟨q, hq, hh⟩ := Option.bind_eq_some_iff.mp hh
        try dsimp only
        rw [hq, Option.bind_some]
        exact ih _ _ _ _ _ _ hF hh
      · next hk =>
        try rw [hk]
        obtain ⟨q, hq, hh⟩ := Option.bind_eq_some_iff.mp hh
        try dsimp only
        rw [hq, Option.bind_some]
        split at hh
        · next hg => rw [if_pos hg]; exact ih _ _ _ _ _ _ hF hh
        · next hg => rw [if_neg hg]; exact ih _ _ _ _ _ _ hF hh
      · next hk =>
        try rw [hk]
        obtain ⟨q, hq, hh⟩ := Option.bind_eq_some_iff.mp hh
        try dsimp only
        rw [hq, Option.bind_some]
        exact ih _ _ _ _ _ _ hF hh
      · next hk => (try rw [hk]); exact ih _ _ _ _ _ _ hF hh
      · next hk =>
        try rw [hk]
        try dsimp only
        split at hh
        · exact ih _ _ _ _ _ _ hF hh
        · cases hh
      · next hk =>
        try rw [hk]
        obtain ⟨q, hq, hh⟩ := Option.bind_eq_some_iff.mp hh
        try dsimp only
        rw [hq, Option.bind_some]
        split at hh
        · next hg =>
          rw [if_pos hg]
          obtain ⟨z, hz, hh⟩ := Option.bind_eq_some_iff.mp hh
          rw [hc _ _ _ _ hz, Option.bind_some]
          exact ih _ _ _ _ _ _ hF hh
        · cases hh
      · exact hh
theorem iv_run_le {P : iv_Pg} {df : Nat → List Value} : ∀ (d d' F F' : Nat), d ≤ d' → F ≤ F' → iv_le (iv_run P df d F) (iv_run P df d' F') := by
  intro d
  induction d with
  | zero => intro d' F F' _ _ a vs h x hh; cases hh
  | succ d ih =>
    intro d' F F' hd hF a vs h x hh
    obtain ⟨d', rfl⟩ : ∃ k, d' = k + 1 := ⟨d' - 1, by omega⟩
    unfold iv_run at hh ⊢
    split at hh
    · next ha =>
      rw [if_pos ha]
      split at hh
      · rw [if_pos (by omega)]; exact hh
      · cases hh
    · next ha =>
      rw [if_neg ha]
      split at hh
      · cases hh
      · next hP =>
        try rw [hP]
        try dsimp only
        split at hh
        · next hl => rw [if_pos hl]; exact iv_ex_le (ih d' F F' (by omega) hF) _ _ _ _ _ _ _ hF hh
        · cases hh
/-- from a place of a method's code, the callees at most d deep, the run comes to its end, and then Q -/
def Rn (d mi : Nat) (rt : Option FieldType) (pc : Nat) (L : iv_L) (st : List Value) (h : iv_H) (Q : Option Value → iv_H → Prop) : Prop := ∃ F r h', iv_ex PG iv_df (iv_run PG iv_df d F) mi rt F pc L st h = some (r, h') ∧ Q r h'
/-- a call comes back, and then Q -/
def Cl (d a : Nat) (vs : List Value) (h : iv_H) (Q : Option Value → iv_H → Prop) : Prop := ∃ F r h', iv_run PG iv_df d F a vs h = some (r, h') ∧ Q r h'
theorem Rn.mono {d mi pc : Nat} {rt : Option FieldType} {L : iv_L} {st : List Value} {h : iv_H} {Q Q' : Option Value → iv_H → Prop} (hq : ∀ r h', Q r h' → Q' r h') (k : Rn d mi rt pc L st h Q) : Rn d mi rt pc L st h Q' := by
  obtain ⟨F, r, h', h1, h2⟩ := k
  exact ⟨F, r, h', h1, hq r h' h2⟩
theorem Cl.mono {d a : Nat} {vs : List Value} {h : iv_H} {Q Q' : Option Value → iv_H → Prop} (hq : ∀ r h', Q r h' → Q' r h') (k : Cl d a vs h Q) : Cl d a vs h Q' := by
  obtain ⟨F, r, h', h1, h2⟩ := k
  exact ⟨F, r, h', h1, hq r h' h2⟩
theorem Cl.deep {d d' a : Nat} {vs : List Value} {h : iv_H} {Q : Option Value → iv_H → Prop} (hd : d ≤ d') (k : Cl d a vs h Q) : Cl d' a vs h Q := by
  obtain ⟨F, r, h', h1, h2⟩ := k
  exact ⟨F, r, h', iv_run_le d d' F F hd (Nat.le_refl _) _ _ _ _ h1, h2⟩
theorem Rn.deep {d d' mi pc : Nat} {rt : Option FieldType} {L : iv_L} {st : List Value} {h : iv_H} {Q : Option Value → iv_H → Prop} (hd : d ≤ d') (k : Rn d mi rt pc L st h Q) : Rn d' mi rt pc L st h Q := by
  obtain ⟨F, r, h', h1, h2⟩ := k
  exact ⟨F, r, h', iv_ex_le (iv_run_le d d' F F hd (Nat.le_refl _)) _ _ _ _ _ _ _ (Nat.le_refl _) h1, h2⟩
/-- into a method -/
theorem Cl.into {d a n oc : Nat} {y : MethodName} {cc : ByteArray} {rt : Option FieldType} {vs : List Value} {h : iv_H} {Q : Option Value → iv_H → Prop} (ha : a < 9000) (hP : PG.2 a = some (y, cc, n, rt, oc)) (hl : (iv_ent n vs).length = n) (k : Rn d a rt 0 (iv_ent n vs) [] h Q) : Cl (d + 1) a vs h Q := by
  obtain ⟨F, r, h', h1, h2⟩ := k
  refine ⟨F, r, h', ?_, h2⟩
  unfold iv_run
  rw [if_neg (by omega), hP]
  try dsimp only
  rw [if_pos hl]
  exact h1
theorem iv_ex_up {d mi F pc : Nat} {rt : Option FieldType} {L : iv_L} {st : List Value} {h : iv_H} {x : Option Value × iv_H} (F' : Nat) (hF : F ≤ F') (hh : iv_ex PG iv_df (iv_run PG iv_df d F) mi rt F pc L st h = some x) : iv_ex PG iv_df (iv_run PG iv_df d F') mi rt F' pc L st h = some x := iv_ex_le (iv_run_le d d F F' (Nat.le_refl _) hF) _ _ _ _ _ _ _ hF hh
/-- one instruction that neither calls nor returns -/
def iv_s (mi pc : Nat) (L : iv_L) (st : List Value) (h : iv_H) : Option (Nat × iv_L × List Value × iv_H) := match PG.1 mi pc with
  | none => none
  | some (i, nx, a, b, sw) => match iv_kd i a with
    | 0 => (iv_pur i a b sw st).bind fun st' => some (nx, L, st', h)
    | 1 => (iv_loc i L st).bind fun q => some (nx, q.1, q.2, h)
    | 2 => (iv_br i st).bind fun q => if q.1 = true then some (a, L, q.2, h) else some (nx, L, q.2, h)
    | 3 => (iv_hp iv_df i a b sw st h).bind fun q => some (nx, L, q.1, q.2)
    | 4 => some (a, L, st, h)
    | 5 => (match st with
      | .int x :: r => some (iv_sw sw a x, L, r, h)
      | _ => none)
    | _ => none
theorem iv_s_ex {call : iv_Cl} {mi F pc pc' : Nat} {rt : Option FieldType} {L L' : iv_L} {st st' : List Value} {h h' : iv_H} (hs : iv_s mi pc L st h = some (pc', L', st', h')) : iv_ex PG iv_df call mi rt (F + 1) pc L st h = iv_ex PG iv_df call mi rt F pc' L' st' h' := by
  unfold iv_s at hs
  rw [iv_ex]
  split at hs
  · cases hs
  · next i nx a b sw hf =>
    try rw [hf]
    try dsimp only
    split at hs
    · next hk => 
      try simp only [hk]
      obtain ⟨q, hq, hs⟩ := Option.bind_eq_some_iff.mp hs
      cases hs
      try dsimp only
      rw [hq, Option.bind_some]
    · next hk =>
      try simp only [hk]
      obtain ⟨q, hq, hs⟩ := Option.bind_eq_some_iff.mp hs
      cases hs
      try dsimp only
      rw [hq, Option.bind_some]
    · next hk =>
      try simp only [hk]
      obtain ⟨q, hq, hs⟩ := Option.bind_eq_some_iff.mp hs
      try dsimp only
      rw [hq, Option.bind_some]
      split at hs
      · next hg => cases hs; rw [if_pos hg]
      · next hg => cases hs; rw [if_neg hg]
    · next hk =>
      try simp only [hk]
      obtain ⟨q, hq, hs⟩ := Option.bind_eq_some_iff.mp hs
      cases hs
      try dsimp only
      rw [hq, Option.bind_some]
    · next hk => (try simp only [hk]); cases hs; rfl
    · next hk =>
      try simp only [hk]
      try dsimp only
      split at hs
      · cases hs; rfl
      · cases hs
    · cases hs
theorem Rn.s {d mi pc pc' : Nat} {rt : Option FieldType} {L L' : iv_L} {st st' : List Value} {h h1 : iv_H} {Q : Option Value → iv_H → Prop} (hs : iv_s mi pc L st h = some (pc', L', st', h1)) (k : Rn d mi rt pc' L' st' h1 Q) : Rn d mi rt pc L st h Q := by
  obtain ⟨F, r, h', g1, g2⟩ := k
  refine ⟨F + 1, r, h', ?_, g2⟩
  rw [iv_s_ex hs]
  exact iv_ex_le (iv_run_le d d F (F + 1) (Nat.le_refl _) (Nat.le_succ _)) _ _ _ _ _ _ _ (Nat.le_refl _) g1
