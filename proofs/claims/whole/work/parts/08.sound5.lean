-- THE INTERPRETER IS TRUE OF THE MACHINE, fifth part: calls, and a method's whole body
theorem iv_hp_mono {df : Nat → List Value} {i : Instr} {a b : Nat} {sw : List (Int × Nat)} {st st' : List Value} {h h' : iv_H} (hh : iv_hp df i a b sw st h = some (st', h')) : h.1 ≤ h'.1 ∧ h.2.1 ≤ h'.2.1 := by
  unfold iv_hp at hh
  cases i <;> dsimp only at hh <;> (first | (cases hh; done) | skip)
  case getstatic => cases hh; exact ⟨Nat.le_refl _, Nat.le_refl _⟩
  case getfield => 
    unfold iv_get at hh
    split at hh
    · obtain ⟨fs, -, hh⟩ := Option.bind_eq_some_iff.mp hh
      obtain ⟨v, -, hh⟩ := Option.bind_eq_some_iff.mp hh
      cases hh; exact ⟨Nat.le_refl _, Nat.le_refl _⟩
    · cases hh
  case putfield =>
    unfold iv_put at hh
    split at hh
    · obtain ⟨fs, -, hh⟩ := Option.bind_eq_some_iff.mp hh
      split at hh
      · cases hh; exact ⟨Nat.le_refl _, Nat.le_refl _⟩
      · cases hh
    · cases hh
  case iaload | baload =>
    unfold iv_ald at hh
    split at hh
    · obtain ⟨fs, -, hh⟩ := Option.bind_eq_some_iff.mp hh
      split at hh
      · split at hh
        · cases hh; exact ⟨Nat.le_refl _, Nat.le_refl _⟩
        · cases hh
      · cases hh
    · cases hh
  case laload =>
    unfold iv_jld at hh
    split at hh
    · obtain ⟨fs, -, hh⟩ := Option.bind_eq_some_iff.mp hh
      split at hh
      · split at hh
        · cases hh; exact ⟨Nat.le_refl _, Nat.le_refl _⟩
        · cases hh
      · cases hh
    · cases hh
  case aaload =>
    unfold iv_qld at hh
    split at hh
    · obtain ⟨fs, -, hh⟩ := Option.bind_eq_some_iff.mp hh
      split at hh
      · split at hh
        · cases hh; exact ⟨Nat.le_refl _, Nat.le_refl _⟩
        · cases hh
      · cases hh
    · cases hh
  case iastore =>
    unfold iv_ias at hh
    split at hh
    · obtain ⟨fs, -, hh⟩ := Option.bind_eq_some_iff.mp hh
      split at hh
      · split at hh
        · cases hh; exact ⟨Nat.le_refl _, Nat.le_refl _⟩
        · cases hh
      · cases hh
    · cases hh
  case bastore =>
    unfold iv_bas at hh
    split at hh
    · obtain ⟨fs, -, hh⟩ := Option.bind_eq_some_iff.mp hh
      split at hh
      · split at hh
        · cases hh; exact ⟨Nat.le_refl _, Nat.le_refl _⟩
        · cases hh
      · cases hh
    · cases hh
  case lastore =>
    unfold iv_jas at hh
    split at hh
    · obtain ⟨fs, -, hh⟩ := Option.bind_eq_some_iff.mp hh
      split at hh
      · split at hh
        · cases hh; exact ⟨Nat.le_refl _, Nat.le_refl _⟩
        · cases hh
      · cases hh
    · cases hh
  case aastore =>
    unfold iv_qas at hh
    split at hh
    · obtain ⟨fs, -, hh⟩ := Option.bind_eq_some_iff.mp hh
      split at hh
      · obtain ⟨gs, -, hh⟩ := Option.bind_eq_some_iff.mp hh
        split at hh
        · cases hh; exact ⟨Nat.le_refl _, Nat.le_refl _⟩
        · cases hh
      · cases hh
    · cases hh
  case arraylength =>
    unfold iv_alen at hh
    split at hh
    · obtain ⟨fs, -, hh⟩ := Option.bind_eq_some_iff.mp hh
      split at hh
      · cases hh; exact ⟨Nat.le_refl _, Nat.le_refl _⟩
      · cases hh
    · cases hh
  case newarray =>
    obtain ⟨kd, -, hh⟩ := Option.bind_eq_some_iff.mp hh
    unfold iv_mka at hh
    split at hh
    · split at hh
      · cases hh; exact ⟨Nat.le_succ _, Nat.le_add_right _ _⟩
      · cases hh
    · cases hh
  case anewarray =>
    split at hh
    · unfold iv_mka at hh
      split at hh
      · split at hh
        · cases hh; exact ⟨Nat.le_succ _, Nat.le_add_right _ _⟩
        · cases hh
      · cases hh
    · cases hh
  case multianewarray =>
    unfold iv_mkm at hh
    split at hh
    · split at hh
      · cases hh; exact ⟨by dsimp only; omega, by dsimp only; omega⟩
      · cases hh
    · cases hh
  case new =>
    unfold iv_new at hh
    split at hh
    · cases hh; exact ⟨Nat.le_succ _, Nat.le_add_right _ _⟩
    · cases hh
  case invokestatic =>
    split at hh
    · unfold iv_cpy at hh
      split at hh
      · obtain ⟨fs, -, hh⟩ := Option.bind_eq_some_iff.mp hh
        obtain ⟨gs, -, hh⟩ := Option.bind_eq_some_iff.mp hh
        split at hh
        · split at hh
          · cases hh; exact ⟨Nat.le_refl _, Nat.le_refl _⟩
          · cases hh
        · split at hh
          · cases hh; exact ⟨Nat.le_refl _, Nat.le_refl _⟩
          · cases hh
        · cases hh
      · cases hh
    · unfold iv_mm at hh
      split at hh
      · split at hh
        · split at hh
          · cases hh; exact ⟨Nat.le_refl _, Nat.le_refl _⟩
          · cases hh
        · cases hh
      · split at hh
        · split at hh
          · split at hh
            · cases hh; exact ⟨Nat.le_refl _, Nat.le_refl _⟩
            · cases hh
          · cases hh
        · cases hh
  case invokespecial =>
    split at hh
    · unfold iv_oin at hh
      split at hh
      · split at hh
        · cases hh; exact ⟨Nat.le_refl _, Nat.le_refl _⟩
        · cases hh
      · cases hh
    · cases hh
theorem iv_ret_h {i : Instr} {rt : Option FieldType} {st : List Value} {h h' : iv_H} {r : Option Value} (hh : iv_ret i rt st h = some (r, h')) : h' = h := by
  unfold iv_ret at hh
  cases i <;> dsimp only at hh <;> (first | (cases hh; done) | skip)
  all_goals
    split at hh
    all_goals first | (cases hh; done) | (cases hh; rfl) | (split at hh <;> first | (cases hh; done) | (cases hh; rfl))
theorem iv_ex_mono {P : iv_Pg} {df : Nat → List Value} {call : iv_Cl} {mi : Nat} {rt : Option FieldType} (hc : ∀ a vs h r h', call a vs h = some (r, h') → h.1 ≤ h'.1 ∧ h.2.1 ≤ h'.2.1) : ∀ (F pc : Nat) (L : iv_L) (st : List Value) (h h' : iv_H) (r : Option Value), iv_ex P df call mi rt F pc L st h = some (r, h') → h.1 ≤ h'.1 ∧ h.2.1 ≤ h'.2.1 := by
  intro F
  induction F with
  | zero => intro pc L st h h' r hh; cases hh
  | succ F ih =>
    intro pc L st h h' r hh
    unfold iv_ex at hh
    split at hh
    · cases hh
    · next i nx a b sw hf =>
      split at hh
      · obtain ⟨q, -, hh⟩ := Option.bind_eq_some_iff.mp hh
        exact ih _ _ _ _ _ _ hh
      · obtain ⟨q, -, hh⟩ := Option.bind_eq_some_iff.mp hh
        exact ih _ _ _ _ _ _ hh
      · obtain ⟨q, -, hh⟩ := Option.bind_eq_some_iff.mp hh
        split at hh
        · exact ih _ _ _ _ _ _ hh
        · exact ih _ _ _ _ _ _ hh
      · obtain ⟨q, hq, hh⟩ := Option.bind_eq_some_iff.mp hh
        have h1 := iv_hp_mono hq
        have h2 := ih _ _ _ _ _ _ hh
        exact ⟨Nat.le_trans h1.1 h2.1, Nat.le_trans h1.2 h2.2⟩
      · exact ih _ _ _ _ _ _ hh
      · split at hh
        · exact ih _ _ _ _ _ _ hh
        · cases hh
      · obtain ⟨q, -, hh⟩ := Option.bind_eq_some_iff.mp hh
        split at hh
        · obtain ⟨z, hz, hh⟩ := Option.bind_eq_some_iff.mp hh
          have h1 := hc _ _ _ _ _ hz
          have h2 := ih _ _ _ _ _ _ hh
          exact ⟨Nat.le_trans h1.1 h2.1, Nat.le_trans h1.2 h2.2⟩
        · cases hh
      · rw [iv_ret_h hh]; exact ⟨Nat.le_refl _, Nat.le_refl _⟩
theorem iv_str_h {a : Nat} {vs : List Value} {h h' : iv_H} {r : Option Value} (hh : iv_str a vs h = some (r, h')) : h' = h := by
  unfold iv_str at hh
  split at hh
  · split at hh
    · split at hh
      · split at hh
        · split at hh
          · cases hh; rfl
          · cases hh
        · split at hh
          · split at hh
            · cases hh; rfl
            · cases hh
          · cases hh
      · cases hh
    · cases hh
  · cases hh
theorem iv_run_mono {P : iv_Pg} {df : Nat → List Value} : ∀ (d F a : Nat) (vs : List Value) (h : iv_H) (r : Option Value) (h' : iv_H), iv_run P df d F a vs h = some (r, h') → h.1 ≤ h'.1 ∧ h.2.1 ≤ h'.2.1 := by
  intro d
  induction d with
  | zero => intro F a vs h r h' hh; cases hh
  | succ d ih =>
    intro F a vs h r h' hh
    unfold iv_run at hh
    split at hh
    · split at hh
      · rw [iv_str_h hh]; exact ⟨Nat.le_refl _, Nat.le_refl _⟩
      · cases hh
    · split at hh
      · cases hh
      · split at hh
        · exact iv_ex_mono (fun a vs h r h' hz => ih F a vs h r h' hz) _ _ _ _ _ _ _ hh
        · cases hh
