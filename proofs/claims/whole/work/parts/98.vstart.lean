-- THE LAW: from its entry to the loop
def stA (g : Nat → iv_C) : Option iv_H := (nO (0, 0, g) 11).bind fun p => fX11_init 100 p.2 p.1
def stAC : Bool := match stA dmy with
  | some k => decide (k.1 = 113)
  | none => false
set_option maxRecDepth 100000 in
theorem stAC_ok : stAC = true := by decide +kernel
theorem stA_so {g : Nat → iv_C} : So 0 0 g (stA g) (stA dmy) := by
  unfold stA
  refine Szq_b (Szq_nO (Sm_start (nc := 0) (m := 0) (g := g))) (fun v h k hs => ?_)
  dsimp only
  exact So_X11 hs
theorem stA_at {g : Nat → iv_C} : ∃ h, stA g = some h ∧ h.1 = 113 := by
  have c := stAC_ok
  unfold stAC at c
  split at c
  · next k hk =>
    obtain ⟨h, e1, e2⟩ := stA_so (g := g) k hk
    exact ⟨h, e1, e2.1.trans (of_decide_eq_true c)⟩
  · cases c
def lwE : Bool := lwq 0 (.new 7, 3, 11, 0, []) && lwq 3 (.dup, 4, 0, 0, []) && lwq 4 (.invokespecial 9, 7, 135, 1, []) && lwq 7 (.astore_n 1, 8, 0, 0, []) && lwq 8 (.new 10, 11, 12, 0, []) && lwq 11 (.dup, 12, 0, 0, []) && lwq 12 (.invokespecial 12, 15, 189, 1, []) && lwq 15 (.astore_n 2, 16, 0, 0, []) && lwq 16 (.iconst 0, 17, 0, 0, []) && lwq 17 (.istore_n 3, 18, 0, 0, [])
set_option maxRecDepth 100000 in
theorem lwE_ok : lwE = true := by decide +kernel
theorem nO_q {h h1 : iv_H} {q a : Nat} (e : nO h a = some (q, h1)) : q = h.1 := by
  unfold nO at e
  split at e
  · cases e
    rfl
  · cases e
theorem lw_entry {Ls : Nat} {Xs : Nat → Int32} (hL : Ls ≤ 3072) : Rn 60 351 (some .boolean) 0 (iv_ent 4 [.ref iv_big]) [] (0, 0, iv_X Ls Xs) lwZ := by
  have c := lwE_ok
  unfold lwE at c
  simp only [Bool.and_eq_true, decide_eq_true_eq, lwq_iff] at c
  obtain ⟨⟨⟨⟨⟨⟨⟨⟨⟨c0, c3⟩, c4⟩, c7⟩, c8⟩, c11⟩, c12⟩, c15⟩, c16⟩, c17⟩ := c
  obtain ⟨h', e1, hR⟩ := st_Rep (L := Ls) (xs := Xs)
  obtain ⟨hA, a1, a2⟩ := stA_at (g := iv_X Ls Xs)
  unfold stG at e1
  unfold stA at a1
  obtain ⟨⟨q0, h0⟩, n1, a1⟩ := Option.bind_eq_some_iff.mp a1
  rw [n1, Option.bind_some] at e1
  try dsimp only at a1
  try dsimp only at e1
  rw [a1, Option.bind_some] at e1
  obtain ⟨⟨q1, h1⟩, n2, e1⟩ := Option.bind_eq_some_iff.mp e1
  try dsimp only at e1
  have z0 : q0 = 0 := nO_q n1
  have z1 : q1 = 113 := (nO_q n2).trans a2
  subst z0
  subst z1
  show Rn 60 351 (some .boolean) 0 [some (.ref iv_big), none, none, none] [] (0, 0, iv_X Ls Xs) lwZ
  refine Rn.hp lw_T c0 rfl (nO_hp n1) ?_
  refine Rn.pu lw_T c3 rfl (st' := [.ref 0, .ref 0]) rfl ?_
  refine Rn.call lw_T c4 rfl (vs := [.ref 0]) (rest := [.ref 0]) rfl (Nat.le_of_ble_eq_true rfl) rfl (rX11_init (by decide) a1 ?_)
  show Rn 60 351 (some .boolean) 7 [some (.ref iv_big), none, none, none] [.ref 0] hA lwZ
  refine Rn.lo lw_T c7 rfl (L' := [some (.ref iv_big), some (.ref 0), none, none]) (st' := []) rfl ?_
  refine Rn.hp lw_T c8 rfl (nO_hp n2) ?_
  refine Rn.pu lw_T c11 rfl (st' := [.ref 113, .ref 113]) rfl ?_
  refine Rn.call lw_T c12 rfl (vs := [.ref 113]) (rest := [.ref 113]) rfl (Nat.le_of_ble_eq_true rfl) rfl (rX12_init (by decide) e1 ?_)
  show Rn 60 351 (some .boolean) 15 [some (.ref iv_big), some (.ref 0), none, none] [.ref 113] h' lwZ
  refine Rn.lo lw_T c15 rfl (L' := [some (.ref iv_big), some (.ref 0), some (.ref 113), none]) (st' := []) rfl ?_
  refine Rn.pu lw_T c16 rfl (st' := [.int 0]) rfl ?_
  refine Rn.lo lw_T c17 rfl (L' := lwL 0) (st' := []) rfl ?_
  obtain ⟨N, hN⟩ : ∃ N : Nat, 20000000 ≤ N := ⟨_, Nat.le_refl _⟩
  exact lw_loop hN hL 512 0 174 0 h' st0 (by omega) (by omega) rfl hR st0_Inv st0_Nc (Nat.le_refl _)
theorem iv_claim : iv_Claim := by
  intro L xs hL
  obtain ⟨F, r, h', e, rfl, h1, h2⟩ := lw_entry (Ls := L) (Xs := xs) hL
  exact ⟨60, F, h', by decide, h1, h2, e⟩
