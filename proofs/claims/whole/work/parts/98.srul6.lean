-- RULE: class and reference side by side
def CRun (N : Nat) (kx : iv_M → Option (Int × iv_M)) (c : iv_M) (x : Int) (c' : iv_M) (x' : Int) : Prop := ∃ k : Nat, x' = x + k ∧ ∀ n, FX8_read_l54 N 57 kx (n + k) c 1 x = FX8_read_l54 N 57 kx n c' 1 x'
def CEnd (N : Nat) (kx : iv_M → Option (Int × iv_M)) (s0 c : iv_M) (x F : Int) : Prop := ∃ (k : Nat) (c' : iv_M), (k : Int) ≤ 402 - x ∧ (∀ n, FX8_read_l54 N 57 kx (n + k) c 1 x = kx c') ∧ c' 58 4 = F ∧ FrC s0 c'
def RBad (b : Int → Int) (L sl : Int) (r0 : iv_M) (F : Int) (r' : iv_M) : Prop := FrR sl r0 r' ∧ ∃ p, 0 ≤ p ∧ p ≤ 402 ∧ RT r' b L p F
def JF (N : Nat) (kx : iv_M → Option (Int × iv_M)) (b : Int → Int) (L sl : Int) (s0 r0 c : iv_M) (x : Int) (r' : iv_M) : Prop := ∃ F, 0 < F ∧ F ≤ 10000 ∧ CEnd N kx s0 c x F ∧ RBad b L sl r0 F r'
theorem CRun.refl {N : Nat} {kx : iv_M → Option (Int × iv_M)} {c : iv_M} {x : Int} : CRun N kx c x c x := ⟨0, by omega, fun _ => rfl⟩
theorem CRun.trans {N : Nat} {kx : iv_M → Option (Int × iv_M)} {c c1 c2 : iv_M} {x x1 x2 : Int} (h : CRun N kx c x c1 x1) (h2 : CRun N kx c1 x1 c2 x2) : CRun N kx c x c2 x2 := by
  obtain ⟨k, e, f⟩ := h
  obtain ⟨k2, e2, f2⟩ := h2
  exact ⟨k2 + k, by omega, fun n => by rw [← Nat.add_assoc, f, f2]⟩
theorem JF_run {N : Nat} {kx : iv_M → Option (Int × iv_M)} {b : Int → Int} {L sl x x1 : Int} {s0 r0 c c1 r' : iv_M} (h : CRun N kx c x c1 x1) (h2 : JF N kx b L sl s0 r0 c1 x1 r') : JF N kx b L sl s0 r0 c x r' := by
  obtain ⟨k, e, f⟩ := h
  obtain ⟨F, f1, f2, ⟨k2, c', e2, g, q⟩, f4⟩ := h2
  exact ⟨F, f1, f2, ⟨k2 + k, c', by omega, fun n => by rw [← Nat.add_assoc, f, g], q⟩, f4⟩
theorem FrH_R {sl : Int} {r r' : iv_M} (h : FrH r r') : FrR sl r r' := ⟨fun a x _ _ _ => h.1 a x, fun j _ => by rw [h.1 140 (by decide), h.1 141 (by decide)]; exact ⟨rfl, rfl⟩, fun i x1 _ _ _ x5 _ => h.2 i x1 x5⟩
/-- after a fault the reference may go on: nothing changes -/
theorem JF_bad {N : Nat} {kx : iv_M → Option (Int × iv_M)} {b : Int → Int} {L sl x : Int} {s0 r0 c r1 : iv_M} {G : iv_M → Option iv_M} (h : JF N kx b L sl s0 r0 c x r1) (h37 : r0 113 37 = 13) (hG : ∀ F p, 0 < F → 0 ≤ p → p ≤ 402 → RT r1 b L p F → r1 113 37 = 13 → ∃ r', G r1 = some r' ∧ Bad b L F r1 r') : ∃ r', G r1 = some r' ∧ JF N kx b L sl s0 r0 c x r' := by
  obtain ⟨F, f1, f2, f3, f4, p, p0, p1, f5⟩ := h
  obtain ⟨r', g1, g2, p', p0', p1', g3⟩ := hG F p f1 p0 p1 f5 (by rw [f4.2.2 37 (by omega) (by omega) (by omega) (by omega) (by omega) (by omega)]; exact h37)
  exact ⟨r', g1, F, f1, f2, f3, f4.trans (FrH_R g2), p', p0', p1', g3⟩
theorem em_app {a c : List Int} : em (a ++ c) = em a ++ em c := by unfold em; rw [List.map_append]
theorem em_len {a : List Int} : (em a).length = a.length := by unfold em; rw [List.length_map]
theorem nvs_em : ∀ (X : List Int), (∀ k, k ∈ X → isK k) → nvs (em X) = 0 := by
  intro X
  induction X with
  | nil => intro _; rfl
  | cons k ks ih =>
    intro h
    have hk := h k List.mem_cons_self
    unfold isK at hk
    have := ih (fun j hj => h j (List.mem_cons_of_mem _ hj))
    show nvs ((k, 0) :: em ks) = 0
    unfold nvs
    rw [this]
    have : ¬ (k = 0 ∨ k = 1) := by omega
    simp [this]
/-- all that is known while a clause is read: W = X ++ (Y ++ O) waits at the class; X is done at the reference -/
def JS (b : Int → Int) (L sl cl : Int) (s0 r0 : iv_M) (Pc Q : List (Int × Int)) (O : List Int) (c r : iv_M) (p pr x stg cmp cnt : Int) (A : List (Int × Int)) (X Y : List Int) (ty : List Bool) (e : Int) : Prop :=
  ((∃ fr, RD c 58 b L p fr 0) ∧ CK c (Pc ++ A) (X ++ (Y ++ O)) stg cmp cl (n9 (X ++ (Y ++ O)) + n12 (X ++ (Y ++ O))) (n12 (X ++ (Y ++ O))) cnt ∧ FrC s0 c) ∧
  (RT r b L pr 0 ∧ RK r sl (Q ++ (A ++ em X)) O (n9 O + n12 O) cnt ∧ FrR sl r0 r) ∧
  (0 ≤ x ∧ x ≤ p ∧ p ≤ pr ∧ pr ≤ L ∧ bl b L pr = bl b L p) ∧ tyl (A ++ em X) [] = some ty ∧
  (∃ nt : Int, 0 ≤ nt ∧ 3 * nt ≤ p ∧ (Q.length : Int) + A.length + X.length + Y.length + O.length ≤ 2 * cnt + e + nt + n12 O) ∧ ((nvs (Q ++ (A ++ em X)) : Nat) : Int) ≤ cnt ∧ (0 ≤ cnt ∧ cnt ≤ 60) ∧ (∀ k, k ∈ X ++ (Y ++ O) → isK k) ∧ X.length + Y.length + O.length ≤ 60
/-- what stays the same through a clause -/
def JC (N : Nat) (b : Int → Int) (L sl cl : Int) (r0 : iv_M) (Pc Q : List (Int × Int)) (O : List Int) : Prop := 1000 ≤ N ∧ TX b L ∧ (0 ≤ sl ∧ sl < 6) ∧ (0 ≤ cl ∧ cl ≤ 12) ∧ Pc.length ≤ Q.length + 12 ∧ (n9 O + n12 O ≤ 10) ∧ r0 113 37 = 13
theorem JS_len {N : Nat} {b : Int → Int} {L sl cl : Int} {s0 r0 : iv_M} {Pc Q : List (Int × Int)} {O : List Int} {c r : iv_M} {p pr x stg cmp cnt : Int} {A : List (Int × Int)} {X Y : List Int} {ty : List Bool} {e : Int} (hC : JC N b L sl cl r0 Pc Q O) (h : JS b L sl cl s0 r0 Pc Q O c r p pr x stg cmp cnt A X Y ty e) (he : e ≤ 1) : (Q ++ (A ++ em X)).length < 290 ∧ (Pc ++ A).length + X.length < 390 := by
  obtain ⟨_, hT, _, _, h5, h6, _⟩ := hC
  obtain ⟨_, _, ⟨x0, x1, x2, x3, _⟩, _, ⟨nt, t0, t1, t2⟩, _, ⟨c0, c1⟩, _, h9⟩ := h
  have hL := hT.2.1
  have n9o := n9_nn O
  have n12o := n12_nn O
  rw [List.length_append, List.length_append, em_len, List.length_append]
  omega
theorem value_sim {N : Nat} {kx : iv_M → Option (Int × iv_M)} {b : Int → Int} {L sl cl : Int} {s0 r0 : iv_M} {Pc Q : List (Int × Int)} {O : List Int} {c r : iv_M} {p pr x stg cmp cnt : Int} {A : List (Int × Int)} {Y : List Int} {ty : List Bool} (hC : JC N b L sl cl r0 Pc Q O) (h : JS b L sl cl s0 r0 Pc Q O c r p pr x stg cmp cnt A [] Y ty 1) (hst : stg = 2 ∨ (stg = 1 ∧ sg b L (bl b L p) ≠ 91 ∧ isw b (bl b L p) (el b L (bl b L p)) wNot = false)) : ∃ r', FX12_value N r 113 = some r' ∧ ((∃ c' p' v, CRun N kx c x c' (x + 1) ∧ bl b L p < p' ∧ JS b L sl cl s0 r0 Pc Q O c' r' p' p' (x + 1) (if stg = 1 then 3 else if cmp = 0 then 3 else 4) (if stg = 1 then 0 else cmp) (cnt + 1) (A ++ [v]) [] Y (false :: ty) 0) ∨ JF N kx b L sl s0 r0 c x r') := by
  obtain ⟨l1, l2⟩ := JS_len hC h (by omega)
  obtain ⟨hN, hT, ⟨s00, s01⟩, _, h5, h6, h37⟩ := hC
  obtain ⟨⟨⟨fr, hR⟩, hK, hFc⟩, ⟨hRT, hRK, hFr⟩, ⟨x0, x1, x2, x3, x4⟩, hty, ⟨nt, t0, t1, t2⟩, hnv, ⟨c0, c1⟩, hisK, hw⟩ := h
  have hL := hT.2.1
  have e0 : em [] = [] := rfl
  rw [e0, List.append_nil] at hRK l1 hty hnv
  obtain ⟨p', hp'⟩ : ∃ p', p' = bl b L p := ⟨_, rfl⟩
  have q0 : p ≤ p' := by rw [hp']; exact rnn_ge
  have q1 : p' ≤ L := by rw [hp']; exact rnn_le (by omega)
  have qi : bl b L p' = p' := by rw [hp']; exact rnn_idem
  obtain ⟨r', pe, a1, a2, ⟨a3, a3'⟩, a4, a5⟩ := value_ok (N := N) hN hRT hRK hT (by omega) x3 s00 s01 (by omega) c0 c1
  rw [x4, ← hp'] at a3 a4 a5
  rw [← hp'] at hst
  have hR1 : RD (mu c 58 2 p') 58 b L p' fr 0 := RD_2 hR
  have hK1 : CK (mu c 58 2 p') (Pc ++ A) ([] ++ (Y ++ O)) stg cmp cl (n9 ([] ++ (Y ++ O)) + n12 ([] ++ (Y ++ O))) (n12 ([] ++ (Y ++ O))) cnt := CK_m hK
  have cs : ∃ c', FX8_readNext N (mu c 58 2 p') 57 (sg b L p') = some (1, c') ∧ RD c' 58 b L (vEnd b L p') p' (cFt (vFt b L p') cnt p') ∧ CK c' (Pc ++ A ++ [vEnt b L p']) ([] ++ (Y ++ O)) (if stg = 1 then 3 else if cmp = 0 then 3 else 4) (if stg = 1 then 0 else cmp) cl (n9 ([] ++ (Y ++ O)) + n12 ([] ++ (Y ++ O))) (n12 ([] ++ (Y ++ O))) (cnt + 1) ∧ FrC (mu c 58 2 p') c' := by
    have ll : (Pc ++ A).length < 400 := by omega
    rcases hst with u | ⟨u, v, w⟩
    · rw [u] at hK1
      obtain ⟨c', y1, y2, y3, y4⟩ := next_value2 (N := N) hN hT (by omega) q1 qi hR1 hK1 ll c0 (by omega)
      rw [u, if_neg (show ¬ (2 : Int) = 1 by decide), if_neg (show ¬ (2 : Int) = 1 by decide)]
      exact ⟨c', y1, y2, y3, y4⟩
    · rw [u] at hK1
      obtain ⟨c', y1, y2, y3, y4⟩ := next_value1 (N := N) hN hT (by omega) q1 qi v w hR1 hK1 ll c0 (by omega)
      rw [u, if_pos rfl, if_pos rfl]
      exact ⟨c', y1, y2, y3, y4⟩
  obtain ⟨c', y1, y2, y3, y4⟩ := cs
  have fc : FrC s0 c' := hFc.trans (FrC.trans (fun a u1 u2 u3 u4 => mu_rw u2) y4)
  rw [hp'] at y1
  refine ⟨r', a1, ?_⟩
  obtain ⟨F, hF⟩ : ∃ F, F = cFt (vFt b L p') cnt p' := ⟨_, rfl⟩
  rw [← hF] at a4 a5 y2
  by_cases z : F = 0
  · left
    obtain ⟨d1, d2, d3, d4, d5⟩ := a5 z
    rw [z] at a4 y2
    rw [← d1] at y2
    refine ⟨c', pe, vEnt b L p', ⟨1, by omega, fun n => c_step hN hT (by omega) (by omega) x0 (by omega) hR y1 y2.2.2.2.2.1 n⟩, by rw [← hp']; exact d2, ⟨⟨p', y2⟩, by rw [← List.append_assoc]; exact y3, fc⟩, ⟨a4, ?_, hFr.trans a2⟩, ⟨by omega, by omega, by omega, a3', rfl⟩, ?_, ⟨nt, t0, by omega, ?_⟩, ?_, ⟨by omega, by omega⟩, hisK, hw⟩
    · rw [e0, List.append_nil, ← List.append_assoc]; exact d3
    · rw [e0, List.append_nil, tyl_app, hty]
      show (tye (vEnt b L p') ty).bind (tyl []) = some (false :: ty)
      rw [d5 ty]; rfl
    · rw [List.length_append]; simp at t2 ⊢; omega
    · rw [e0, List.append_nil, ← List.append_assoc, nvs_app]
      have : nvs [vEnt b L p'] ≤ 1 := by
        show nvs (vEnt b L p' :: []) ≤ 1
        unfold nvs nvs
        split <;> omega
      omega
  · right
    have fpos : 0 < F ∧ F ≤ 10000 := by
      have : ∀ ft : Int, (ft = 0 ∨ (0 < ft ∧ ft ≤ 10000)) → (cFt ft cnt p' = 0 ∨ (0 < cFt ft cnt p' ∧ cFt ft cnt p' ≤ 10000)) := fun ft hft => by
        unfold cFt ffl
        split
        · exact hft
        · split
          · right; omega
          · exact hft
      have v := this (vFt b L p') (by
        unfold vFt
        split
        · unfold wft ffl
          split
          · rw [if_pos rfl]; right; omega
          · left; rfl
        · rcases nft_cases (b := b) (L := L) (p := p') (lo := 0) (hi := 99999) (by omega) (by omega) with u | u
          · left; exact u.1
          · right; exact u)
      rw [← hF] at v
      omega
    exact ⟨F, fpos.1, fpos.2, ⟨2, c', by omega, fun n => c_fail hN hT (by omega) (by omega) x0 (by omega) hR y1 (Or.inr (by rw [y2.2.2.2.2.1]; exact z)) n, y2.2.2.2.2.1, fc⟩, hFr.trans a2, pe, by omega, by omega, a4⟩
theorem Prt_12 {rho : Int} {X Y : List Int} (h : Prt rho X Y) (hr : 1 ≤ rho) : n12 X = 0 := by
  have : ∀ Z : List Int, (∀ k, k ∈ Z → isK k ∧ rho ≤ rnk k) → n12 Z = 0 := by
    intro Z
    induction Z with
    | nil => intro _; rfl
    | cons k ks ih =>
      intro hh
      obtain ⟨h1, h2⟩ := hh k List.mem_cons_self
      have h12 : ¬ k = 12 := fun z => by have := (rnk_rg h1).2.2.mpr z; omega
      show (if k = 12 then 1 else 0) + n12 ks = 0
      rw [if_neg h12, ih (fun j hj => hh j (List.mem_cons_of_mem _ hj))]; rfl
  exact this X h.1
/-- a sum's sign, read by both -/
theorem arith_sim {N : Nat} {kx : iv_M → Option (Int × iv_M)} {b : Int → Int} {L sl cl : Int} {s0 r0 : iv_M} {Pc Q : List (Int × Int)} {O : List Int} {c r : iv_M} {p pr x stg cmp cnt : Int} {A : List (Int × Int)} {X Y : List Int} {ty : List Bool} (hC : JC N b L sl cl r0 Pc Q O) (h : JS b L sl cl s0 r0 Pc Q O c r p pr x stg cmp cnt A X Y ty 0) (hpr : pr = bl b L p) (hst : stg = 3 ∨ stg = 4) (ha : ark (sg b L pr) ≠ 0) (hP : Prt (rnk (ark (sg b L pr))) X (Y ++ O)) (hY : Y.length ≤ 2) (hO : O.length ≤ 40) : ∃ c', CRun N kx c x c' (x + 1) ∧ JS b L sl cl s0 r0 Pc Q O c' (rtM r (pr + 1) 0) (pr + 1) (pr + 1) (x + 1) 2 cmp cnt (A ++ em X) [] (ark (sg b L pr) :: Y) ty 1 := by
  obtain ⟨l1, l2⟩ := JS_len hC h (by omega)
  obtain ⟨hN, hT, ⟨s00, s01⟩, _, h5, h6, h37⟩ := hC
  obtain ⟨⟨⟨fr, hR⟩, hK, hFc⟩, ⟨hRT, hRK, hFr⟩, ⟨x0, x1, x2, x3, x4⟩, hty, ⟨nt, t0, t1, t2⟩, hnv, ⟨c0, c1⟩, hisK, hw⟩ := h
  have hL := hT.2.1
  obtain ⟨k, hk⟩ : ∃ k, k = ark (sg b L pr) := ⟨_, rfl⟩
  have kk : isK k ∧ k ≠ 12 ∧ k ≠ 9 := by
    rcases ark_rg (s := sg b L pr) with u | u
    · exact absurd u ha
    · rw [← hk] at u
      refine ⟨u.1, u.2.1, fun z => ?_⟩
      have := u.2.2
      rw [z] at this
      exact absurd this (by decide)
  have pL : pr < L := by
    by_cases z : pr < L
    · exact z
    · exfalso; apply ha
      have : sg b L pr = -1 := by unfold sg; rw [if_neg z]
      rw [this]; decide
  have hR1 : RD (mu c 58 2 pr) 58 b L pr fr 0 := RD_2 hR
  have wlen : X.length + (Y ++ O).length ≤ 63 := by rw [List.length_append]; omega
  have n9w := n9_nn (X ++ (Y ++ O))
  have n12w := n12_nn (X ++ (Y ++ O))
  have nx := n9_nn X
  have wl : ((X ++ (Y ++ O)).length : Int) ≤ 63 := by rw [List.length_append]; omega
  obtain ⟨c', y1, y2, y3, y4⟩ := next_arith (N := N) hN hT (by omega) x3 hst ha hP hR1 (CK_m (i := 2) (v := pr) hK) (by omega) wlen (by omega) (by omega)
  rw [← hk] at y3 ⊢
  have fc : FrC s0 c' := hFc.trans (FrC.trans (fun a u1 u2 u3 u4 => mu_rw u2) y4)
  have x12 := Prt_12 hP (by rcases ark_rg (s := sg b L pr) with u | u; exact absurd u ha; omega)
  have d9 : n9 (k :: (Y ++ O)) = n9 (Y ++ O) := by show (if k = 9 then 1 else 0) + n9 (Y ++ O) = _; rw [if_neg kk.2.2]; omega
  have d12 : n12 (k :: (Y ++ O)) = n12 (Y ++ O) := by show (if k = 12 then 1 else 0) + n12 (Y ++ O) = _; rw [if_neg kk.2.1]; omega
  rw [n9_app, n12_app] at y3
  have e0 : em [] = [] := rfl
  have step : ∀ n, FX8_read_l54 N 57 kx (n + 1) c 1 x = FX8_read_l54 N 57 kx n c' 1 (x + 1) := fun n => c_step hN hT (by omega) (by omega) x0 (by omega) hR (by rw [← hpr]; exact y1) y2.2.2.2.2.1 n
  refine ⟨c', ⟨1, by omega, step⟩, ⟨⟨fr, y2⟩, ?_, fc⟩, ⟨RT_M hRT, ?_, hFr.trans FrR_rt⟩, ⟨by omega, by omega, by omega, by omega, rfl⟩, ?_, ⟨nt, t0, by omega, ?_⟩, ?_, ⟨c0, c1⟩, ?_, ?_⟩
  · show CK c' (Pc ++ (A ++ em X)) (k :: (Y ++ O)) 2 cmp cl (n9 (k :: (Y ++ O)) + n12 (k :: (Y ++ O))) (n12 (k :: (Y ++ O))) cnt
    rw [d9, d12, ← List.append_assoc]
    rw [x12] at y3
    have q1 : n9 X + n9 (Y ++ O) + (0 + n12 (Y ++ O)) - n9 X = n9 (Y ++ O) + n12 (Y ++ O) := by omega
    have q2 : 0 + n12 (Y ++ O) = n12 (Y ++ O) := by omega
    rw [q1, q2] at y3
    exact y3
  · rw [e0, List.append_nil]; exact RK_rt hRK
  · rw [e0, List.append_nil]; exact hty
  · rw [List.length_append, em_len]; simp; omega
  · rw [e0, List.append_nil]; exact hnv
  · intro j hj
    have hj' : j ∈ k :: (Y ++ O) := hj
    rw [List.mem_cons] at hj'
    rcases hj' with u | u
    · rw [u]; exact kk.1
    · exact hisK j (by rw [List.mem_append]; right; exact u)
  · simp; omega
/-- the reference does what waits on top -/
theorem shift_sim {N : Nat} {b : Int → Int} {L sl cl : Int} {s0 r0 : iv_M} {Pc Q : List (Int × Int)} {O : List Int} {c r : iv_M} {p pr x stg cmp cnt k : Int} {A : List (Int × Int)} {X Y : List Int} {ty ty' : List Bool} (hC : JC N b L sl cl r0 Pc Q O) (h : JS b L sl cl s0 r0 Pc Q O c r p pr x stg cmp cnt A X (k :: Y) ty 0) (ht : tye (k, 0) ty = some ty') : ∃ r', FX12_entry N r 113 k 0 = some r' ∧ JS b L sl cl s0 r0 Pc Q O c r' p pr x stg cmp cnt A (X ++ [k]) Y ty' 0 := by
  obtain ⟨l1, l2⟩ := JS_len hC h (by omega)
  obtain ⟨hN, hT, ⟨s00, s01⟩, _, h5, h6, h37⟩ := hC
  obtain ⟨⟨⟨fr, hR⟩, hK, hFc⟩, ⟨hRT, hRK, hFr⟩, hx, hty, ⟨nt, t0, t1, t2⟩, hnv, ⟨c0, c1⟩, hisK, hw⟩ := h
  obtain ⟨r', a1, a2, a3, a4⟩ := entry_ok (N := N) (k := k) (n := 0) hRT hRK s00 s01 (by omega)
  have hk : isK k := hisK k (by simp)
  have wl : X ++ [k] ++ (Y ++ O) = X ++ (k :: Y ++ O) := by rw [List.append_assoc]; rfl
  have el : A ++ em (X ++ [k]) = A ++ em X ++ [(k, 0)] := by rw [em_app, ← List.append_assoc]; rfl
  refine ⟨r', a1, ⟨⟨fr, hR⟩, by rw [wl]; exact hK, hFc⟩, ⟨a2, by rw [el, ← List.append_assoc]; exact a3, hFr.trans a4⟩, hx, ?_, ⟨nt, t0, t1, ?_⟩, ?_, ⟨c0, c1⟩, by rw [wl]; exact hisK, ?_⟩
  · rw [el, tyl_app, hty]
    show (tye (k, 0) ty).bind (tyl []) = some ty'
    rw [ht]; rfl
  · rw [List.length_append]; simp at t2 ⊢; omega
  · rw [el, ← List.append_assoc, nvs_app]
    have : nvs [((k, 0) : Int × Int)] = 0 := nvs_em [k] (fun j hj => by rw [List.mem_singleton] at hj; rw [hj]; exact hk)
    omega
  · rw [List.length_append]; simp at hw ⊢; omega
theorem blanks_sim {N : Nat} {b : Int → Int} {L sl cl : Int} {s0 r0 : iv_M} {Pc Q : List (Int × Int)} {O : List Int} {c r : iv_M} {p pr x stg cmp cnt e : Int} {A : List (Int × Int)} {X Y : List Int} {ty : List Bool} (hC : JC N b L sl cl r0 Pc Q O) (h : JS b L sl cl s0 r0 Pc Q O c r p pr x stg cmp cnt A X Y ty e) : FX12_blanks N r 113 = some (rtM r (bl b L p) 0) ∧ JS b L sl cl s0 r0 Pc Q O c (rtM r (bl b L p) 0) p (bl b L p) x stg cmp cnt A X Y ty e := by
  obtain ⟨hN, hT, ⟨s00, s01⟩, _, h5, h6, h37⟩ := hC
  obtain ⟨h1, ⟨hRT, hRK, hFr⟩, ⟨x0, x1, x2, x3, x4⟩, h4⟩ := h
  have hL := hT.2.1
  have q0 : p ≤ bl b L p := rnn_ge
  have q1 : bl b L p ≤ L := rnn_le (by omega)
  refine ⟨by rw [blanks_ok hN hRT hT (by omega) (by omega), x4], h1, ⟨RT_M hRT, RK_rt hRK, hFr.trans FrR_rt⟩, ⟨x0, x1, q0, q1, rnn_idem⟩, h4⟩
