-- THE START, second part: the classes, the arrays' classes, what stands outside
theorem iv_over {args : Array Value} {s : State} (h : (Cond.arrayOver (.array .int)).before args s = true) : ∃ comp c k, s.vm.findClass "[I" = some comp ∧ s.vm.classes[c]? = some k ∧ k.kind = .array comp (.array .int) ∧ s.vm.findClass ("[" ++ (FieldType.array .int).toString) = some c := by
  simp only [Cond.before, Cond.holds, Cond.value, beq_iff_eq] at h
  rw [show (FieldType.array FieldType.int).toString = "[I" from rfl] at h ⊢
  cases hc : s.vm.findClass "[I" with
  | none => simp [hc] at h
  | some comp =>
    simp only [hc, Option.bind_some, Option.bind_eq_some_iff, Option.map_eq_some_iff] at h
    obtain ⟨c, hi, k, hk, hb⟩ := h
    obtain ⟨hlt, hp, -⟩ := Array.findIdx?_eq_some_iff_getElem.mp hi
    have hkk : s.vm.classes[c] = k := (Array.getElem?_eq_some_iff.mp hk).2
    rw [hkk] at hp
    cases hkind : k.kind with
    | array component ty =>
      rw [hkind] at hb hp
      simp at hb hp
      exact ⟨comp, c, k, rfl, hk, by rw [hkind, hp, hb.1], hb.2⟩
    | _ => rw [hkind] at hb; simp at hb
theorem iv_classes {args : Array Value} {s : State} (hts : ∀ w ∈ lw_tbl, w.before args s = true) : ∃ (D : va_G) (tc : Nat → ClassId), va_K D vwCl (iv_tys tc) s := by
  have hg : ∀ w ∈ lw_g, w.before args s = true := fun w hw => hts w (List.mem_filter.mp hw).1
  have h1 : ∀ c : Nat, ∃ q : ClassId × (Nat → Nat), ∀ r : vw_C, vwCl[c]? = some r → u_Kn s r.1 r.2.1 r.2.2 q.1 q.2 := by
    intro c
    by_cases hc : c < 13
    · obtain ⟨e1, e2, -⟩ := iv_cla hc
      have hi := List.all_eq_true.mp iv_IP_ok c (List.mem_range.mpr hc)
      rw [Bool.and_eq_true] at hi
      obtain ⟨cC, iS, hk⟩ := u_known (C := iv_cn c) (T := iv_fT c) (N := iv_fN c) (n := iv_fN c) hg e2 (hg _ (iv_atb_ok hi.1))
      refine ⟨(cC, iS), fun r hr => ?_⟩
      rw [e1] at hr
      cases hr
      exact hk
    · exact ⟨(0, fun _ => 0), fun r hr => absurd (List.getElem?_eq_some_iff.mp hr).1 (by simpa [vwCl] using hc)⟩
  obtain ⟨d, hd⟩ := Classical.axiomOfChoice h1
  have ha := iv_AP_ok
  simp only [Bool.and_eq_true] at ha
  obtain ⟨c0, k0, q0, a0, b0, e0⟩ := Cond.arrayClass_spec (hg _ (iv_atb_ok ha.1.1.1))
  obtain ⟨c1, k1, q1, a1, b1, e1⟩ := Cond.arrayClass_spec (hg _ (iv_atb_ok ha.1.1.2))
  obtain ⟨c2, k2, q2, a2, b2, e2⟩ := Cond.arrayClass_spec (hg _ (iv_atb_ok ha.1.2))
  obtain ⟨c3, k3, q3, a3, b3, e3⟩ := Cond.arrayClass_spec (hg _ (iv_atb_ok ha.2))
  have hz := iv_zs_ok
  simp only [Bool.and_eq_true, decide_eq_true_eq] at hz
  obtain ⟨q4, c4, k4, f4, -, b4, e4, a4⟩ := Cond.arrayOver_spec (hts _ (List.mem_of_getElem? hz.2))
  obtain ⟨q5, c5, k5, f5, b5, e5, a5⟩ := iv_over (hts _ (List.mem_of_getElem? hz.1.2))
  refine ⟨(fun c => (d c).1, fun c => (d c).2), fun t => if t = 0 then c0 else if t = 1 then c1 else if t = 2 then c2 else if t = 3 then c3 else if t = 4 then c4 else c5, fun c q hq => hd c q hq, fun k q hq => ?_⟩
  match k, hq with
  | 0, hq => cases hq; exact ⟨fun n z => ⟨fun k h => (by cases h), k0, b0, q0, e0⟩, a0⟩
  | 1, hq => cases hq; exact ⟨fun n z => ⟨fun k h => (by cases h), k1, b1, q1, e1⟩, a1⟩
  | 2, hq => cases hq; exact ⟨fun n z => ⟨fun k h => (by cases h), k2, b2, q2, e2⟩, a2⟩
  | 3, hq => cases hq; exact ⟨fun n z => ⟨fun k h => (by cases h), k3, b3, q3, e3⟩, a3⟩
  | 4, hq => cases hq; exact ⟨fun n z => ⟨fun k h => (by cases h), k4, b4, q4, e4⟩, k4, q4, b4, e4, f4, a4⟩
  | 5, hq => cases hq; exact ⟨fun n z => ⟨fun k h => (by cases h), k5, b5, q5, e5⟩, a5⟩
  | n + 6, hq => cases hq
theorem iv_outside {args : Array Value} {s : State} {b L : Nat} {xs : Nat → Int32} (hgv : (Jvm.Cond.and given_1 narrow_1).before args s = true) (hts : ∀ w ∈ lw_tbl, w.before args s = true) (hX : va_X b L xs s s.heap) (hL : L < 2 ^ 31) : ∃ ex : Nat → Nat, ex iv_big = b ∧ iv_E s.heap.size ex (iv_X L xs) iv_tx s := by
  have hA : ∀ a : Nat, a < s.heap.size → ¬ s.heap.size ≤ a := fun a h => Nat.not_le.mpr h
  have hs := flat_of_before _ hgv
  have at' : ∀ {i : Nat} {w : Cond}, iv_fl[i]? = some w → w.before args s = true := fun h => hs _ (List.mem_of_getElem? h)
  have ht' : ∀ {i : Nat} {w : Cond}, lw_tbl[i]? = some w → w.before args s = true := fun h => hts _ (List.mem_of_getElem? h)
  have hrk := iv_rk_ok
  simp only [Bool.and_eq_true, decide_eq_true_eq, List.all_eq_true, List.mem_range] at hrk
  obtain ⟨⟨r1, r2⟩, r3⟩ := hrk
  have hz := iv_zs_ok
  simp only [Bool.and_eq_true, decide_eq_true_eq] at hz
  obtain ⟨⟨⟨⟨⟨⟨⟨⟨⟨z1, z2⟩, z3⟩, z4⟩, z5⟩, z6⟩, z7⟩, z8⟩, z9⟩, z10⟩ := hz
  obtain ⟨t, ht, hT⟩ := va_Tof (f := fun j => .int (iv_ranks.getD j 0)) (A := fun q => s.heap.size ≤ q) (by decide) (at' r1) (va_eqt (at' r2)) (fun j hj => va_eqt (at' (r3 j hj))) hA
  have hstr : ∀ k : Nat, ∃ q : Nat, k < 27 → iv_Tx q (iv_bt k).length (fun j => (iv_bt k).getD j 0) (fun q => s.heap.size ≤ q) s s.heap ∧ vk_R (iv_tx.getD k ("", 0, "", 0)).1 (iv_tx.getD k ("", 0, "", 0)).2.1 (iv_tx.getD k ("", 0, "", 0)).2.2.1 q s := by
    intro k
    by_cases hk : k < 27
    · obtain ⟨q, h⟩ := iv_strs hgv hts (A := fun q => s.heap.size ≤ q) hA k hk
      exact ⟨q, fun _ => h⟩
    · exact ⟨0, fun h => absurd h hk⟩
  obtain ⟨sa, hsa⟩ := Classical.axiomOfChoice hstr
  obtain ⟨ex, hx0, hx1, hxs⟩ : ∃ ex : Nat → Nat, ex iv_big = b ∧ ex (iv_big + 1) = t ∧ ∀ k, ex (iv_big + 10 + k) = sa k := by
    refine ⟨fun a => if a = iv_big then b else if a = iv_big + 1 then t else sa (a - (iv_big + 10)), if_pos rfl, ?_, fun k => ?_⟩
    · show (if iv_big + 1 = iv_big then b else if iv_big + 1 = iv_big + 1 then t else _) = t
      rw [if_neg (by omega), if_pos rfl]
    · show (if iv_big + 10 + k = iv_big then b else if iv_big + 10 + k = iv_big + 1 then t else sa (iv_big + 10 + k - (iv_big + 10))) = sa k
      rw [if_neg (by omega), if_neg (by omega), show iv_big + 10 + k - (iv_big + 10) = k by omega]
  refine ⟨ex, hx0, ?_, ?_, ?_, ?_, ?_, ?_, ?_, ?_, ?_⟩
  · intro a n f ha hXa
    rcases iv_X_0 hXa with ⟨rfl, rfl, rfl⟩ | ⟨rfl, rfl, rfl⟩
    · rw [hx0]
      obtain ⟨scr, x1, x2, x3, x4, x5⟩ := hX
      exact ⟨scr, x1, x2, x3, Nat.le_of_eq x4.symm, by rw [x4], x5, hA _ (Array.getElem?_eq_some_iff.mp x1).1⟩
    · rw [hx1]
      exact hT
  · rw [hx1]
    exact va_Zref (ht' z3) (ht' z6) ht hA
  · intro w hw
    have := hts w (List.mem_filter.mp hw).1
    have h2 := (List.mem_filter.mp hw).2
    split at h2
    · exact va_Nw.of rfl this
    · exact va_Nw.of rfl this
    · cases h2
  · intro r hr
    obtain ⟨k, hk⟩ := List.getElem?_of_mem hr
    have hk27 : k < 27 := by have := (List.getElem?_eq_some_iff.mp hk).1; rwa [iv_tx_len] at this
    have e : iv_tx.getD k ("", 0, "", 0) = r := by rw [List.getD_eq_getElem?_getD, hk]; rfl
    have hc := List.all_eq_true.mp iv_sp_ok k (List.mem_range.mpr hk27)
    unfold iv_spb at hc
    rw [Bool.and_eq_true, Bool.and_eq_true] at hc
    have e2 := of_decide_eq_true hc.1.2
    have h3 := (hsa k hk27).2
    rw [e] at h3 e2
    rw [e2, hxs k]
    exact h3
  · exact va_AO.of (ht' z10)
  · intro a n f ha hXa
    obtain ⟨k, hk, rfl, rfl, rfl⟩ := iv_X_9 hXa
    rw [hxs k]
    exact (hsa k hk).1
  · exact va_Zof (ht' z4) (ht' z7) (va_eqi (at' z1)) hA
  · exact va_Zqof (ht' z5) (ht' z8) (at' z2) hA
  · obtain ⟨q5, c5, k5, f5, b5, e5, a5⟩ := iv_over (ht' z9)
    exact ⟨c5, q5, k5, a5, b5, e5, f5⟩
