-- THE LAW: its loop
theorem iv_sw_in : ∀ (sw : List (Int × Nat)) (d : Nat) (x : Int32), iv_sw sw d x = d ∨ ∃ q ∈ sw, iv_sw sw d x = q.2 := by
  intro sw
  induction sw with
  | nil => intro d x; exact Or.inl rfl
  | cons q r ih =>
    intro d x
    unfold iv_sw
    split
    · exact Or.inr ⟨q, List.mem_cons_self, rfl⟩
    · rcases ih d x with e | ⟨p, p1, p2⟩
      · exact Or.inl e
      · exact Or.inr ⟨p, List.mem_cons_of_mem _ p1, p2⟩
theorem Nc_le {t : Int} {nc : Nat} {s : iv_M} (hI : Inv t s) (h : Nc nc s) : nc ≤ 262 := by
  have im := hI.2.2.2.2.2.1
  have b : ∀ j, 0 ≤ j → j < 4 → s 173 j = 0 ∨ s 173 j = 1 := fun j j0 j1 => by
    rcases im j j0 j1 with z | z
    · exact Or.inl z.1
    · exact Or.inr z.1
  have b0 := b 0 (by omega) (by omega)
  have b1 := b 1 (by omega) (by omega)
  have b2 := b 2 (by omega) (by omega)
  have b3 := b 3 (by omega) (by omega)
  unfold Nc at h
  omega
def lwZ (r : Option Value) (h : iv_H) : Prop := r = some (.int 1) ∧ h.1 ≤ 1000 ∧ h.2.1 ≤ 2000000
def lwM : Bool := lwq 18 (.iload_n 3, 19, 0, 0, []) && lwq 19 (.aload_n 0, 20, 0, 0, []) && lwq 20 (.arraylength, 21, 0, 0, []) && lwq 21 (.bipush 6, 23, 0, 0, []) && lwq 23 (.isub, 24, 0, 0, []) && lwq 24 (.if_icmp .gt 1618, 27, 1642, 0, []) && lwq 27 (.aload_n 0, 28, 0, 0, []) && lwq 28 (.iload_n 3, 29, 0, 0, []) && lwq 29 (.iaload, 30, 0, 0, []) && lwq 30 (.bipush 63, 32, 0, 0, []) && lwq 32 (.iand, 33, 0, 0, []) && lwq 1636 (.iinc 3 6, 1639, 0, 0, []) && lwq 1639 (.goto (-1621), 1642, 18, 0, []) && lwq 1642 (.iconst 1, 1643, 0, 0, []) && lwq 1643 (.ireturn, 1644, 0, 0, [])
set_option maxRecDepth 100000 in
theorem lwM_ok : lwM = true := by decide +kernel
def lwW : Bool := match iv_lk 33 tL_law with
  | some (i, _, a, _, sw) => decide (iv_kd i a = 5) && decide (a = 1636) && decide (sw = lwSw)
  | none => false
set_option maxRecDepth 100000 in
theorem lwW_ok : lwW = true := by decide +kernel
set_option maxRecDepth 100000 in
theorem lw_sw : ∃ i nx b, iv_lk 33 tL_law = some (i, nx, 1636, b, lwSw) ∧ iv_kd i 1636 = 5 := by
  have c := lwW_ok
  unfold lwW at c
  split at c
  · next i nx a b sw e =>
    simp only [Bool.and_eq_true, decide_eq_true_eq, lwq_iff] at c
    obtain ⟨⟨c1, c2⟩, c3⟩ := c
    subst c2
    subst c3
    exact ⟨i, nx, b, e, c1⟩
  · cases c
theorem Int32_ofNat_ti {n : Nat} (h : n ≤ 3072) : (Int32.ofNat n).toInt = (n : Int) := Int32.toInt_ofNat_of_lt (by omega)
theorem lw_loop {N : Nat} (hN : 20000000 ≤ N) {Ls : Nat} {Xs : Nat → Int32} (hL : Ls ≤ 3072) : ∀ (m j nc : Nat) (i : Int32) (h : iv_H) (s : iv_M), Ls ≤ 6 * j + 6 * m + 5 → 6 * j ≤ 3072 → i.toInt = ((6 * j : Nat) : Int) → Rep nc Ls Xs h s → Inv (j : Int) s → Nc nc s → 174 ≤ nc → Rn 60 351 (some .boolean) 18 (lwL i) [] h lwZ := by
  have c := lwM_ok
  unfold lwM at c
  simp only [Bool.and_eq_true, decide_eq_true_eq, lwq_iff] at c
  obtain ⟨⟨⟨⟨⟨⟨⟨⟨⟨⟨⟨⟨⟨⟨c18, c19⟩, c20⟩, c21⟩, c23⟩, c24⟩, c27⟩, c28⟩, c29⟩, c30⟩, c32⟩, c36⟩, c39⟩, c42⟩, c43⟩ := c
  obtain ⟨iw, nxw, bw, cw, kw⟩ := lw_sw
  have head : ∀ (i : Int32) (h : iv_H) (nc : Nat) (s : iv_M) (n : Nat), i.toInt = (n : Int) → n ≤ 3072 → Rep nc Ls Xs h s → (Ls < n + 6 → Rn 60 351 (some .boolean) 1642 (lwL i) [] h lwZ) → (n + 6 ≤ Ls → Rn 60 351 (some .boolean) 27 (lwL i) [] h lwZ) → Rn 60 351 (some .boolean) 18 (lwL i) [] h lwZ := by
    intro i h nc s n hi hn hR k1 k2
    refine Rn.lo lw_T c18 rfl (L' := lwL i) (st' := [.int i]) rfl ?_
    refine Rn.lo lw_T c19 rfl (L' := lwL i) (st' := [.ref iv_big, .int i]) rfl ?_
    refine Rn.hp lw_T c20 rfl (lw_alen hR) ?_
    refine Rn.pu lw_T c21 rfl (st' := [.int 6, .int (Int32.ofNat Ls), .int i]) rfl ?_
    refine Rn.pu lw_T c23 rfl (st' := [.int (Int32.ofNat Ls - 6), .int i]) rfl ?_
    have e : (Int32.ofNat Ls - 6).toInt = (Ls : Int) - 6 := by
      rw [ti_sub (Int32_ofNat_ti hL) (show (6 : Int32).toInt = 6 from rfl), w32_id (x := (Ls : Int) - 6) (by omega) (by omega)]
    by_cases g : n + 6 ≤ Ls
    · refine Rn.bf lw_T c24 rfl (st' := []) rfl (decide_eq_false (fun z => ?_)) (k2 g)
      have := (ti_l e hi).mp z
      omega
    · exact Rn.bt lw_T c24 rfl (st' := []) rfl (decide_eq_true ((ti_l e hi).mpr (by omega))) (k1 (by omega))
  have out : ∀ (i : Int32) (h : iv_H) (nc : Nat) (s : iv_M) (t : Int), Rep nc Ls Xs h s → Inv t s → Nc nc s → Rn 60 351 (some .boolean) 1642 (lwL i) [] h lwZ := by
    intro i h nc s t hR hI hNc
    have b := Nc_le hI hNc
    refine Rn.pu lw_T c42 rfl (st' := [.int 1]) rfl ?_
    have hr : iv_ret .ireturn (some .boolean) [.int 1] h = some (some (.int 1), h) := by
      first
        | rfl
        | exact if_pos (Or.inr rfl)
    have hz : lwZ (some (.int 1)) h := by
      have h1 := hR.1
      have h2 := hR.2.1
      unfold lwZ
      exact ⟨rfl, by omega, by omega⟩
    exact Rn.ret lw_T c43 rfl (r := some (.int 1)) hr hz
  intro m
  induction m with
  | zero =>
    intro j nc i h s hm hj hi hR hI hNc h174
    exact head i h nc s _ hi hj hR (fun _ => out i h nc s _ hR hI hNc) (fun z => by omega)
  | succ m ih =>
    intro j nc i h s hm hj hi hR hI hNc h174
    refine head i h nc s _ hi hj hR (fun _ => out i h nc s _ hR hI hNc) (fun g => ?_)
    have next : ∀ (n2 : Nat) (h2 : iv_H) (s2 : iv_M), 174 ≤ n2 → Rep n2 Ls Xs h2 s2 → Inv ((j : Int) + 1) s2 → Nc n2 s2 → Rn 60 351 (some .boolean) 1636 (lwL i) [] h2 lwZ := by
      intro n2 h2 s2 g1 g2 g3 g4
      refine Rn.lo lw_T c36 rfl (L' := lwL (i + 6)) (st' := []) rfl ?_
      refine lw_goto lw_T c39 ?_
      have g5 : Inv (((j + 1 : Nat)) : Int) s2 := by
        rw [show (((j + 1 : Nat)) : Int) = (j : Int) + 1 by omega]
        exact g3
      refine ih (j + 1) n2 (i + 6) h2 s2 (by omega) (by omega) ?_ g2 g5 g4 g1
      rw [ti_add hi (show (6 : Int32).toInt = 6 from rfl), w32_id (x := ((6 * j : Nat) : Int) + 6) (by omega) (by omega)]
      omega
    refine Rn.lo lw_T c27 rfl (L' := lwL i) (st' := [.ref iv_big]) rfl ?_
    refine Rn.lo lw_T c28 rfl (L' := lwL i) (st' := [.int i, .ref iv_big]) rfl ?_
    refine Rn.hp lw_T c29 rfl (lw_ald hR hi (by omega)) ?_
    refine Rn.pu lw_T c30 rfl (st' := [.int 63, .int (Xs (6 * j))]) rfl ?_
    refine Rn.pu lw_T c32 rfl (st' := [.int (Xs (6 * j) &&& 63)]) rfl ?_
    refine Rn.sw lw_T cw kw rfl ?_
    rcases iv_sw_in lwSw 1636 (Xs (6 * j) &&& 63) with e | ⟨q, q1, q2⟩
    · rw [e]
      exact next nc h s h174 hR (HR1_mono (by omega) hI) hNc
    · rw [q2]
      exact lw_all hN q q1 (j : Int) nc Ls (6 * j) Xs i h s lwZ (by omega) (by omega) hL hi g hR hI hNc h174 next
