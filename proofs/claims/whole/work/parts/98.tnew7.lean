-- a run of any method but image keeps the array of images
theorem kp_get {a b : Nat} {st : List Value} {h : iv_H} {r : List Value × iv_H} (e : iv_get a b st h = some r) : r.2 = h := by
  unfold iv_get at e
  split at e
  · obtain ⟨fs, _, e⟩ := Option.bind_eq_some_iff.mp e
    obtain ⟨v, _, e⟩ := Option.bind_eq_some_iff.mp e
    cases e; rfl
  · cases e
theorem kp_put {a b : Nat} {sw : List (Int × Nat)} {st : List Value} {h : iv_H} {r : List Value × iv_H} (k : K4 h) (e : iv_put a b sw st h = some r) : KP h r.2 := by
  unfold iv_put at e
  split at e
  · obtain ⟨fs, e1, e⟩ := Option.bind_eq_some_iff.mp e
    split at e
    · cases e; exact KP_up (K4_obj k e1)
    · cases e
  · cases e
theorem kp_ald {t : Nat} {st : List Value} {h : iv_H} {r : List Value × iv_H} (e : iv_ald t st h = some r) : r.2 = h := by
  unfold iv_ald at e
  split at e
  · obtain ⟨⟨k', n', x⟩, e1, e⟩ := Option.bind_eq_some_iff.mp e
    split at e
    · split at e
      · cases e; rfl
      · cases e
    · cases e
  · cases e
theorem kp_jld {st : List Value} {h : iv_H} {r : List Value × iv_H} (e : iv_jld st h = some r) : r.2 = h := by
  unfold iv_jld at e
  split at e
  · obtain ⟨⟨k', n', x⟩, e1, e⟩ := Option.bind_eq_some_iff.mp e
    split at e
    · split at e
      · cases e; rfl
      · cases e
    · cases e
  · cases e
theorem kp_qld {st : List Value} {h : iv_H} {r : List Value × iv_H} (e : iv_qld st h = some r) : r.2 = h := by
  unfold iv_qld at e
  split at e
  · obtain ⟨⟨k', n', x⟩, e1, e⟩ := Option.bind_eq_some_iff.mp e
    split at e
    · split at e
      · cases e; rfl
      · cases e
    · cases e
  · cases e
theorem kp_alen {st : List Value} {h : iv_H} {r : List Value × iv_H} (e : iv_alen st h = some r) : r.2 = h := by
  unfold iv_alen at e
  split at e
  · obtain ⟨z, e1, e⟩ := Option.bind_eq_some_iff.mp e
    split at e
    · cases e; rfl
    · cases e
  · cases e
theorem kp_ias {st : List Value} {h : iv_H} {r : List Value × iv_H} (k : K4 h) (e : iv_ias st h = some r) : KP h r.2 := by
  unfold iv_ias at e
  split at e
  · obtain ⟨⟨k', n', x⟩, e1, e⟩ := Option.bind_eq_some_iff.mp e
    cases x with
    | inl f =>
      dsimp only at e
      split at e
      · cases e; exact KP_up (K4_arr k e1 (fun g z => by cases z))
      · cases e
    | inr f => cases e
  · cases e
theorem kp_bas {st : List Value} {h : iv_H} {r : List Value × iv_H} (k : K4 h) (e : iv_bas st h = some r) : KP h r.2 := by
  unfold iv_bas at e
  split at e
  · obtain ⟨⟨k', n', x⟩, e1, e⟩ := Option.bind_eq_some_iff.mp e
    cases x with
    | inl f =>
      dsimp only at e
      split at e
      · cases e; exact KP_up (K4_arr k e1 (fun g z => by cases z))
      · cases e
    | inr f => cases e
  · cases e
theorem kp_jas {st : List Value} {h : iv_H} {r : List Value × iv_H} (k : K4 h) (e : iv_jas st h = some r) : KP h r.2 := by
  unfold iv_jas at e
  split at e
  · obtain ⟨⟨k', n', x⟩, e1, e⟩ := Option.bind_eq_some_iff.mp e
    rcases x with f | f | f
    · cases e
    · dsimp only at e
      split at e
      · cases e; exact KP_up (K4_arr k e1 (fun g z => by cases z))
      · cases e
    · cases e
  · cases e
theorem kp_mka {c : Nat} {st : List Value} {h : iv_H} {r : List Value × iv_H} (k : K4 h) (e : iv_mka c st h = some r) : KP h r.2 := by
  unfold iv_mka at e
  split at e
  · split at e
    · cases e; exact KP_new k
    · cases e
  · cases e
theorem kp_mkm {st : List Value} {h : iv_H} {r : List Value × iv_H} (k : K4 h) (e : iv_mkm st h = some r) : KP h r.2 := by
  unfold iv_mkm at e
  have k1 := k.1
  split at e
  · split at e
    · cases e
      refine ⟨by show h.1 ≤ h.1 + 1 + _; omega, ?_⟩
      dsimp only
      rw [if_neg (by omega), if_neg (by omega)]
    · cases e
  · cases e
theorem kp_nwo {a : Nat} {st : List Value} {h : iv_H} {r : List Value × iv_H} (k : K4 h) (e : iv_new iv_df a st h = some r) : KP h r.2 := by
  unfold iv_new at e
  split at e
  · cases e; exact KP_new k
  · cases e
theorem kp_cpy {st : List Value} {h : iv_H} {r : List Value × iv_H} (k : K4 h) (e : iv_cpy st h = some r) : KP h r.2 := by
  unfold iv_cpy at e
  split at e
  · obtain ⟨x, e0, e⟩ := Option.bind_eq_some_iff.mp e
    obtain ⟨y, e1, e⟩ := Option.bind_eq_some_iff.mp e
    split at e
    · split at e
      · cases e; exact KP_up (K4_arr k e1 (fun g z => by cases z))
      · cases e
    · split at e
      · cases e; exact KP_up (K4_arr k e1 (fun g z => by cases z))
      · cases e
    · cases e
  · cases e
theorem kp_mm {mx : Bool} {st : List Value} {h : iv_H} {r : List Value × iv_H} (e : iv_mm mx st h = some r) : r.2 = h := by
  unfold iv_mm at e
  split at e
  · split at e
    · cases e; rfl
    · cases e
  · cases e
theorem kp_oin {st : List Value} {h : iv_H} {r : List Value × iv_H} (e : iv_oin st h = some r) : r.2 = h := by
  unfold iv_oin at e
  split at e
  · split at e
    · cases e; rfl
    · cases e
  · cases e
theorem kp_of {h h' : iv_H} (e : h' = h) : KP h h' := by rw [e]; exact KP.refl
theorem kp_hp {i : Instr} {a b : Nat} {sw : List (Int × Nat)} {st : List Value} {h : iv_H} {r : List Value × iv_H} (k : K4 h) (hi : i ≠ .aastore) (e : iv_hp iv_df i a b sw st h = some r) : KP h r.2 := by
  unfold iv_hp at e
  split at e
  · exact kp_of (kp_get e)
  · exact kp_put k e
  · cases e; exact KP.refl
  · exact kp_of (kp_ald e)
  · exact kp_of (kp_ald e)
  · exact kp_of (kp_jld e)
  · exact kp_of (kp_qld e)
  · exact kp_ias k e
  · exact kp_bas k e
  · exact kp_jas k e
  · exact absurd rfl hi
  · exact kp_of (kp_alen e)
  · obtain ⟨c, _, e⟩ := Option.bind_eq_some_iff.mp e
    exact kp_mka k e
  · split at e
    · exact kp_mka k e
    · cases e
  · exact kp_mkm k e
  · exact kp_nwo k e
  · split at e
    · exact kp_cpy k e
    · split at e
      · exact kp_of (kp_mm e)
      · split at e
        · exact kp_of (kp_mm e)
        · cases e
  · split at e
    · exact kp_of (kp_oin e)
    · cases e
  · cases e
theorem kp_ret {i : Instr} {rt : Option FieldType} {st : List Value} {h : iv_H} {r : Option Value × iv_H} (e : iv_ret i rt st h = some r) : r.2 = h := by
  unfold iv_ret at e
  split at e
  · split at e
    · cases e; rfl
    · cases e
  · split at e
    · cases e; rfl
    · split at e
      · cases e; rfl
      · cases e
    · cases e
  · split at e
    · cases e; rfl
    · cases e
  · split at e
    · cases e; rfl
    · cases e; rfl
    · cases e; rfl
    · cases e; rfl
    · cases e
  · cases e
theorem kp_str {a : Nat} {vs : List Value} {h : iv_H} {r : Option Value × iv_H} (e : iv_str a vs h = some r) : r.2 = h := by
  unfold iv_str at e
  split at e
  · split at e
    · split at e
      · split at e
        · split at e
          · cases e; rfl
          · cases e
        · split at e
          · split at e
            · cases e; rfl
            · cases e
          · cases e
      · cases e
    · cases e
  · cases e
theorem kp_ex {call : iv_Cl} {mi : Nat} {rt : Option FieldType} (h1 : mi ≠ 187) (h2 : mi ≠ 351) (hc : ∀ a vs h r, a ≠ 187 → a ≠ 351 → K4 h → call a vs h = some r → KP h r.2) : ∀ (F pc : Nat) (L : iv_L) (st : List Value) (h : iv_H) (r : Option Value × iv_H), K4 h → iv_ex PG iv_df call mi rt F pc L st h = some r → KP h r.2 := by
  intro F
  induction F with
  | zero => intro pc L st h r _ e; cases e
  | succ F ih =>
    intro pc L st h r k e
    rw [iv_ex] at e
    split at e
    · cases e
    · next i nx a b sw hf =>
      have k53 := iv_k53_at h1 h2 hf
      split at e
      · obtain ⟨q, hq, e⟩ := Option.bind_eq_some_iff.mp e
        exact ih _ _ _ _ _ k e
      · obtain ⟨q, hq, e⟩ := Option.bind_eq_some_iff.mp e
        exact ih _ _ _ _ _ k e
      · obtain ⟨q, hq, e⟩ := Option.bind_eq_some_iff.mp e
        split at e
        · exact ih _ _ _ _ _ k e
        · exact ih _ _ _ _ _ k e
      · obtain ⟨q, hq, e⟩ := Option.bind_eq_some_iff.mp e
        have kp := kp_hp k (fun z => by rw [z] at k53; cases k53) hq
        exact kp.trans (ih _ _ _ _ _ (K4_kp k kp) e)
      · exact ih _ _ _ _ _ k e
      · split at e
        · exact ih _ _ _ _ _ k e
        · cases e
      · next hk =>
        obtain ⟨q, hq, e⟩ := Option.bind_eq_some_iff.mp e
        split at e
        · obtain ⟨z, hz, e⟩ := Option.bind_eq_some_iff.mp e
          have ha : a ≠ 187 ∧ a ≠ 351 := by
            unfold iv_k53 at k53
            dsimp only at k53
            split at k53
            · cases k53
            · rw [Bool.and_eq_true, decide_eq_true_eq, decide_eq_true_eq] at k53; exact k53
            · rw [Bool.and_eq_true, decide_eq_true_eq, decide_eq_true_eq] at k53; exact k53
            · rw [Bool.and_eq_true, decide_eq_true_eq, decide_eq_true_eq] at k53; exact k53
            · exfalso
              unfold iv_kd at hk
              split at hk <;> simp_all
          have kp := hc a q.1 h z ha.1 ha.2 k hz
          exact kp.trans (ih _ _ _ _ _ (K4_kp k kp) e)
        · cases e
      · exact kp_of (kp_ret e)
theorem kp_run : ∀ (d F a : Nat) (vs : List Value) (h : iv_H) (r : Option Value × iv_H), a ≠ 187 → a ≠ 351 → K4 h → iv_run PG iv_df d F a vs h = some r → KP h r.2 := by
  intro d
  induction d with
  | zero => intro F a vs h r _ _ _ e; cases e
  | succ d ih =>
    intro F a vs h r h1 h2 k e
    rw [iv_run] at e
    split at e
    · split at e
      · exact kp_of (kp_str e)
      · cases e
    · split at e
      · cases e
      · split at e
        · exact kp_ex h1 h2 (fun a vs h r x1 x2 x3 x4 => ih F a vs h r x1 x2 x3 x4) _ _ _ _ _ _ k e
        · cases e
/-- a call of any method but image keeps the array of images -/
theorem Cl.kp {d a : Nat} {vs : List Value} {h : iv_H} {Q : Option Value → iv_H → Prop} (h1 : a ≠ 187) (h2 : a ≠ 351) (k : K4 h) (c : Cl d a vs h Q) : Cl d a vs h (fun r h' => Q r h' ∧ h'.2.2 53 = h.2.2 53) := by
  obtain ⟨F, r, h', e1, e2⟩ := c
  exact ⟨F, r, h', e1, e2, (kp_run d F a vs h (r, h') h1 h2 k e1).2⟩
