-- THE START: nothing beyond the rows' ends
theorem sh_ln_all : ∀ j : Fin 18, (sh (114 + j.1)).1 = 0 ∧ ((sh (114 + j.1)).2 : Int) = ln (114 + j.1) := by decide
theorem sh_ln {a : Nat} (a0 : 114 ≤ a) (a1 : a ≤ 131) : (sh a).1 = 0 ∧ ((sh a).2 : Int) = ln a := by
  have := sh_ln_all ⟨a - 114, by omega⟩
  dsimp only at this
  rw [show 114 + (a - 114) = a by omega] at this
  exact this
theorem st0_OZ : OZ st0 := fun a a0 a1 i hi => by
  obtain ⟨l1, l2⟩ := sh_ln a0 a1
  have c := stC_ok
  unfold stC at c
  split at c
  · next k hk =>
    simp only [Bool.and_eq_true, decide_eq_true_eq, List.all_eq_true, List.mem_range] at c
    obtain ⟨⟨k1, k2⟩, k3⟩ := c
    have e : st0 a i = vlC (k.2.2 a) i := by
      unfold st0
      rw [hk]
      exact if_pos (by omega)
    obtain ⟨f, hc, _⟩ := (okC_ok (k3 a (by omega))).2.1 (Or.inl l1)
    rw [e, hc]
    show (if 0 ≤ i ∧ i.toNat < (sh a).2 then (f i.toNat).toInt else 0) = 0
    rw [if_neg (by omega)]
  · cases c
