-- THE START: the heap stands for the memory st0
def mtC : Bool := (List.range 174).all fun a => (decide ((sh a).1 ≠ 111) || (decide (st0 a 4 = 9) && decide (st0 a 5 = 31))) && (decide ((sh a).1 ≠ 103) || (decide (st0 a 0 < 0) && decide (st0 a 1 < 0) && decide (st0 a 2 < 0))) && (decide ((sh a).1 ≠ 106) || (decide (0 ≤ st0 a 0) && decide ((st0 a 0).toNat < 174) && decide ((sh (st0 a 0).toNat).1 = 2))) && (decide ((sh a).1 ≠ 4) || (List.range (sh a).2).all fun i => decide (st0 a (i : Int) < 0))
set_option maxRecDepth 100000 in
theorem mtC_ok : mtC = true := by decide +kernel
theorem T2_n {n q : Nat} (hq : q = 9 ∨ q = 31) (h : 174 ≤ n) : T2 n q := by
  rcases hq with rfl | rfl
  all_goals
    unfold T2 T1 T7
    repeat' apply And.intro
    all_goals first
      | omega
      | decide
theorem st0_Mt : Mt 174 st0 := by
  have c := mtC_ok
  unfold mtC at c
  have c := List.all_eq_true.mp c
  have d : ∀ a, a < 174 → _ := fun a ha => c a (List.mem_range.mpr ha)
  refine ⟨fun a ha hk => ?_, fun a ha hk => ?_, fun a ha hk => ?_, fun a ha hk i i0 i1 => ?_⟩
  all_goals
    have e := d a ha
    simp only [Bool.and_eq_true, Bool.or_eq_true, decide_eq_true_eq, List.all_eq_true, List.mem_range] at e
    obtain ⟨⟨⟨e1, e2⟩, e3⟩, e4⟩ := e
  · have e1 := e1.resolve_left (fun z => z hk)
    rw [e1.1, e1.2]
    exact ⟨⟨by decide, T2_n (Or.inl rfl) (by decide)⟩, by decide, T2_n (Or.inr rfl) (by decide)⟩
  · have e2 := e2.resolve_left (fun z => z hk)
    exact ⟨Or.inl e2.1.1, Or.inl e2.1.2, Or.inl e2.2⟩
  · have e3 := e3.resolve_left (fun z => z hk)
    exact ⟨e3.1.1, e3.1.2, e3.2⟩
  · have e4 := e4.resolve_left (fun z => z hk)
    have := e4 i.toNat (by omega)
    rw [Int.toNat_of_nonneg i0] at this
    exact Or.inl this
theorem st_Rep {L : Nat} {xs : Nat → Int32} : ∃ h', stG (iv_X L xs) = some h' ∧ Rep 174 L xs h' st0 := by
  have c := stC_ok
  unfold stC at c
  split at c
  · next k hk =>
    simp only [Bool.and_eq_true, decide_eq_true_eq, List.all_eq_true, List.mem_range] at c
    obtain ⟨⟨k1, k2⟩, k3⟩ := c
    obtain ⟨h', e1, e2, e3, e4, e5, e6⟩ := stG_so (g := iv_X L xs) k hk
    have hb : iv_big = 1000000 := rfl
    refine ⟨h', e1, by omega, by omega, by omega, fun a ha => (e6 a (by omega)).1, fun a ha => ?_, st0_Mt⟩
    have : st0 a = vlC (k.2.2 a) := by
      funext i
      unfold st0
      rw [hk]
      exact if_pos ha
    rw [this, e5 a (by omega) (by omega)]
    exact okC_ok (k3 a ha)
  · cases c
