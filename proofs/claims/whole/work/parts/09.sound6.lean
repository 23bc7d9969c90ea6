-- THE INTERPRETER IS TRUE OF THE MACHINE, sixth part: what a row of the code needs; moves of what stands outside
abbrev lw_g : List Cond := lw_tbl.filter goodWord
theorem iv_nest_ok {w : Cond} (h : w ∈ iv_nest) {s U : State} (hW : s.WarmedH U.vm) (hz : va_Nw w s) : va_Nw w U := by
  have h2 := (List.mem_filter.mp h).2
  split at h2
  · exact va_Nw.warmM hW hz
  · exact va_Nw.warmF hW hz
  · cases h2
theorem iv_E_moved {S0 : Nat} {ex : Nat → Nat} {X : Nat → iv_C} {tx : List (String × Nat × String × Nat)} {s U : State} (hE : iv_E S0 ex X tx s) (hW : s.WarmedH U.vm) (hk : ∀ a : Nat, a < s.heap.size → ¬ S0 ≤ a → U.heap[a]? = s.heap[a]?) : iv_E S0 ex X tx U := by
  obtain ⟨h1, h2, h3, h4, h5, h6, h7, h8, h9⟩ := hE
  have hal : s.vm.Alike U.vm := hW.alike
  refine ⟨fun a n f ha hX => ((h1 a n f ha hX).kept hk).moved hal, (h2.kept hk).moved hal, fun w hw => iv_nest_ok hw hW (h3 w hw), fun r hr => (h4 r hr).warm hW, h5.moved hal, fun a n f ha hX => ?_, (h7.kept hk).moved hal, (h8.kept hk).moved hal, h9.moved hal⟩
  obtain ⟨v, g, q1, q2, q3, q4, q5⟩ := h6 a n f ha hX
  exact ⟨v, g, (q1.kept hk).moved hal, (q2.kept hk).moved hal, (q3.kept hk).moved hal, (q4.kept hk).moved hal, q5⟩
/-- the constants of a row, by the tables -/
def iv_kst (tx : List (String × Nat × String × Nat)) (own : String) (i : Instr) (a b : Nat) (sw : List (Int × Nat)) : Prop := match i with
  | .ldc x => if b = 1 then iv_big ≤ a ∧ ∃ t, (own, x, t, a) ∈ tx else ∀ q r, sw = q :: r → Cond.constant own x (Int32.ofInt q.1) ∈ lw_g
  | .ldc_w x => if b = 1 then iv_big ≤ a ∧ ∃ t, (own, x, t, a) ∈ tx else ∀ q r, sw = q :: r → Cond.constant own x (Int32.ofInt q.1) ∈ lw_g
  | .ldc2_w x => ∀ q r, sw = q :: r → Cond.constantLong own x (Int64.ofInt q.1) ∈ lw_g
  | _ => True
def iv_swk (pc : Nat) (i : Instr) (a : Nat) (sw : List (Int × Nat)) : Prop := match i with
  | .tableswitch d lo hi offs => ∀ x : Int32, (x.toInt < lo ∨ hi < x.toInt → (pc : Int) + d = (iv_sw sw a x : Nat)) ∧ (¬ x.toInt < lo → ¬ hi < x.toInt → ∃ off, offs[(x.toInt - lo).toNat]? = some off ∧ (pc : Int) + off = (iv_sw sw a x : Nat))
  | .lookupswitch d ps => (ps.toList.zip (ps.toList.drop 1)).all (fun (a, next) => a.1 < next.1) = true ∧ ∀ x : Int32, (pc : Int) + Op.lookupswitch.offset ps.toList d x.toInt = (iv_sw sw a x : Nat)
  | _ => True
/-- a call's callee, by the tables -/
def iv_cal (P : iv_Pg) (own : String) (x a b k : Nat) (st : Bool) : Prop := ∃ y cc n rt oc, P.2 a = some (y, cc, n, rt, oc) ∧ n ≤ 40 ∧ (y.cls ≠ "java/lang/invoke/MethodHandle" ∧ y.cls ≠ "java/lang/invoke/VarHandle") ∧ (parseMethodDescriptor y.desc).map (fun d => d.parameters.length) = some k ∧ b = (if st then k else k + 1) ∧
  Cond.code y cc n rt ∈ lw_g ∧ Cond.initialized y.cls ∈ lw_g ∧ (if st then Cond.static y ∈ lw_g ∧ Cond.methodLink own x y ∈ lw_g else Cond.instanceMethod y ∈ lw_g)
def iv_cok (P : iv_Pg) (own : String) (i : Instr) (a b : Nat) : Prop := match i with
  | .invokevirtual x => ∃ k, iv_cal P own x a b k false ∧ ∀ y cc n rt oc, P.2 a = some (y, cc, n, rt, oc) → Cond.methodLink own x y ∈ lw_g ∧ Cond.selects y.cls y y ∈ lw_g ∧ (if a = 9001 ∨ a = 9002 then y.cls = "java/lang/String" else ∃ T N, vwCl[oc]? = some (y.cls, T, N))
  | .invokestatic x => (a = 9003 ∨ a = 9004 ∨ a = 9005) ∨ ∃ k, iv_cal P own x a b k true
  | .invokespecial x => a = 9000 ∨ ∃ k, iv_cal P own x a b k false ∧ ∀ y cc n rt oc, P.2 a = some (y, cc, n, rt, oc) → y.name = "<init>" ∧ rt = none ∧ (Cond.methodLink own x y ∈ lw_g ∨ ∃ host, Cond.methodLinkNest own x y host ∈ iv_nest)
  | _ => True
/-- a row of the code, as the class file and the tables have it -/
def iv_rok (P : iv_Pg) (df : Nat → List Value) (tx : List (String × Nat × String × Nat)) (own mn : String) (cc : ByteArray) (pc : Nat) (f : iv_F) : Prop := ∃ n, decode cc pc = .ok (f.1, n) ∧ f.2.1 = pc + n ∧ (iv_kd f.1 f.2.2.1 ≠ 5 → n = iv_len f.1) ∧ iv_kst tx own f.1 f.2.2.1 f.2.2.2.1 f.2.2.2.2 ∧ iv_hok lw_g df own mn f.1 f.2.2.1 f.2.2.2.1 f.2.2.2.2 ∧
  (∀ off, (f.1 = .goto off ∨ f.1 = .ifnull off ∨ f.1 = .ifnonnull off ∨ (∃ q, f.1 = .if_icmp q off) ∨ ∃ q, f.1 = .ifCond q off) → (pc : Int) + off = (f.2.2.1 : Int)) ∧ iv_swk pc f.1 f.2.2.1 f.2.2.2.2 ∧ iv_cok P own f.1 f.2.2.1 f.2.2.2.1
/-- what a method asks at its entry, and what it leaves behind -/
def iv_Pc (D : va_G) (S0 : Nat) (ex : Nat → Nat) (tc : Nat → ClassId) (X : Nat → iv_C) (tx : List (String × Nat × String × Nat)) (vs : List Value) (h : iv_H) : Array Value → State → Prop := va_Pc (vs.map (iv_tr (iv_ad S0 ex))) (fun U => S0 ≤ U.heap.size ∧ iv_Wo D S0 ex tc X h U.heap ∧ va_K D vwCl (iv_tys tc) U ∧ iv_E S0 ex X tx U)
def iv_Qc (D : va_G) (S0 : Nat) (ex : Nat → Nat) (tc : Nat → ClassId) (X : Nat → iv_C) (r : Option Value) (h' : iv_H) : Array Value → State → Outcome → State → Prop := fun _ st oc t => oc = .returned (r.map (iv_tr (iv_ad S0 ex))) ∧ iv_Wo D S0 ex tc X h' t.heap ∧ va_F (fun q => S0 ≤ q) st t
abbrev iv_rm (d mc ms : Nat) : Room := { frames := d, cells := mc, slots := ms, locals := 64 * d }
/-- the contract that a run of the interpreter gives -/
def iv_Mt (l : Launch) (P : iv_Pg) (D : va_G) (S0 : Nat) (ex : Nat → Nat) (tc : Nat → ClassId) (X : Nat → iv_C) (tx : List (String × Nat × String × Nat)) (d a : Nat) (vs : List Value) (h : iv_H) (r : Option Value) (h' : iv_H) : Prop := ∀ y cc n rt oc, P.2 a = some (y, cc, n, rt, oc) → Met l y (Cond.code y cc n rt :: lw_g) (iv_rm d (h'.1 - h.1) (h'.2.1 - h.2.1)) (iv_Pc D S0 ex tc X tx vs h) (iv_Qc D S0 ex tc X r h') (h'.1 - h.1) (h'.2.1 - h.2.1) (fun q => S0 ≤ q)
theorem iv_blind {D : va_G} {S0 : Nat} {ex : Nat → Nat} {tc : Nat → ClassId} {X : Nat → iv_C} {tx : List (String × Nat × String × Nat)} {vs : List Value} {h : iv_H} : FrameBlind (iv_Pc D S0 ex tc X tx vs h) := by
  intro a U g mk hp
  obtain ⟨h1, h2, h3, h4, h5⟩ := hp
  exact ⟨h1, h2, h3, va_K.moved (u := U) (U := U.calling g mk a) (Vm.Alike.refl U.vm) h4, iv_E_moved (s := U) (U := U.calling g mk a) h5 (State.WarmedH.refl U) (fun _ _ _ => rfl)⟩
section IV6
variable {p : Program} {l : Launch} {e : Env} {R : Room} {s : State} {m : MethodId} {args : Array Value} {below : List Frame} {meth : Method} {c : Code} {H : Heap} {locs : List Loc} {cells slots : Nat} {Q : State → Prop}
variable {cc : ByteArray} {pc n : Nat} {ls : Array Slot} {D : va_G} {S0 : Nat} {ex : Nat → Nat} {tc : Nat → ClassId} {X : Nat → iv_C} {tx : List (String × Nat × String × Nat)} {own mn : String} {P : iv_Pg}
/-- a call has run -/
theorem iv_called {mc ms : Nat} {rest : List Value} {h' : iv_H} {r : Option Value} {st0 : List Value} {a0 : Array Value} (hr : va_Run p l e R s m args below meth c H locs cells slots mc ms (F0 m pc ls st0) rest (iv_Qc D S0 ex tc X r h' a0) (fun q => S0 ≤ q)) (hS : va_S (fun q : Nat => S0 ≤ q) s.heap H locs)
    (k : ∀ H' locs', iv_Wo D S0 ex tc X h' H' → va_S (fun q : Nat => S0 ≤ q) s.heap H' locs' → W p l e R s m args below meth c H' locs' (cells + mc) (slots + ms) Q (F0 m (pc + 3) ls ((r.map (iv_tr (iv_ad S0 ex))).toList ++ rest))) : W p l e R s m args below meth c H locs cells slots Q (F0 m pc ls st0) := by
  intro T hT Z
  obtain ⟨v, st₀, t, T', L, q0, Z', hL, e1, e2, ⟨hv, hWo, hz, hk⟩, st⟩ := hr T hT Z
  have hv2 : v = r.map (iv_tr (iv_ad S0 ex)) := by cases hv; rfl
  subst hv2
  rw [q0] at hz hk
  rw [← e1] at hWo hz hk
  obtain ⟨t2, a1, b1⟩ := k T'.heap (locs ++ L) hWo ⟨Nat.le_trans hS.1 hz, fun q g1 g2 => by rw [hk q (Nat.lt_of_lt_of_le g1 hS.1) g2]; exact hS.2.1 q g1 g2, fun q hq => by
      rcases List.mem_append.mp hq with g | g
      · exact hS.2.2 q g
      · exact hL q g⟩ T' rfl Z'
  exact ⟨t2, st t2 a1, b1⟩
theorem iv_pop_ok : ∀ {b : Nat} {st acc vs rest : List Value}, iv_pop b st acc = some (vs, rest) → ∃ u, u.length = b ∧ vs = u.reverse ++ acc ∧ st = u ++ rest := by
  intro b
  induction b with
  | zero => intro st acc vs rest h; cases h; exact ⟨[], rfl, rfl, rfl⟩
  | succ b ih =>
    intro st acc vs rest h
    cases st with
    | nil => cases h
    | cons v st =>
      obtain ⟨u, h1, h2, h3⟩ := ih h
      exact ⟨v :: u, by rw [List.length_cons, h1], by rw [h2]; simp, by rw [h3]; rfl⟩
set_option maxHeartbeats 4000000 in
theorem iv_call_ok {nL a b d : Nat} {i : Instr} {st rest vs : List Value} {h h' : iv_H} {r : Option Value} (hx : p.tables.exec = Jvm.exec) (hb : c.code = cc) (hown : s.vm.findClass own = some m.cls) (hts : ∀ w ∈ lw_g, w.before args s = true) (hml : c.maxLocals = nL) (hls : ls.size = nL) (hK : va_K D vwCl (iv_tys tc) s) (hE : iv_E S0 ex X tx s)
    (hd : decode cc pc = .ok (i, 3)) (hi : iv_kd i a = 6) (hcok : iv_cok P own i a b) (h0 : S0 ≤ s.heap.size) (hW : iv_Wo D S0 ex tc X h H) (hS : va_S (fun q : Nat => S0 ≤ q) s.heap H locs)
    (hRc : cells + (h'.1 - h.1) ≤ R.cells) (hRs : slots + (h'.2.1 - h.2.1) ≤ R.slots) (hRf : d + 1 ≤ R.frames) (hRl : 64 * d + 64 ≤ R.locals)
    (hp : iv_pop b st [] = some (vs, rest)) (h8 : (rest.map fun v => v.category).sum ≤ 8) (hrc : iv_rcv P i a vs h = true) (hstr : (a = 9001 ∨ a = 9002) → ∃ q r', vs = .ref q :: r' ∧ iv_big ≤ q ∧ ∃ n f, h.2.2 q = .inl (9, n, .inl f)) (hM : iv_Mt l P D S0 ex tc X tx d a vs h r h')
    (k : ∀ H' locs', iv_Wo D S0 ex tc X h' H' → va_S (fun q : Nat => S0 ≤ q) s.heap H' locs' → W p l e R s m args below meth c H' locs' (cells + (h'.1 - h.1)) (slots + (h'.2.1 - h.2.1)) Q (F0 m (pc + 3) ls ((r.toList ++ rest).map (iv_tr (iv_ad S0 ex))))) : W p l e R s m args below meth c H locs cells slots Q (F0 m pc ls (st.map (iv_tr (iv_ad S0 ex)))) := by
  obtain ⟨u, hu, hvs, hst⟩ := iv_pop_ok hp
  rw [List.append_nil] at hvs
  have k2 : ∀ H' locs', iv_Wo D S0 ex tc X h' H' → va_S (fun q : Nat => S0 ≤ q) s.heap H' locs' → W p l e R s m args below meth c H' locs' (cells + (h'.1 - h.1)) (slots + (h'.2.1 - h.2.1)) Q (F0 m (pc + 3) ls ((r.map (iv_tr (iv_ad S0 ex))).toList ++ rest.map (iv_tr (iv_ad S0 ex)))) := by
    intro H' locs' g1 g2
    have := k H' locs' g1 g2
    rw [List.map_append] at this
    cases r <;> exact this
  have hrm : 2 * (F0 m pc ls (st.map (iv_tr (iv_ad S0 ex)))).monitorRoom + ((rest.map (iv_tr (iv_ad S0 ex))).map fun v => v.category).sum ≤ 8 := lv_room (by rw [iv_tr_cats]; exact h8)
  have hfix : CallFix p m c cc nL s args lw_g own := ⟨hx, hb, hml, hown, hts⟩
  have hpre : ∀ U : State, U.heap = H → s.WarmedH U.vm → iv_Pc D S0 ex tc X tx vs h (vs.map (iv_tr (iv_ad S0 ex))).toArray U := by
    intro U hU hWm
    refine ⟨rfl, ?_, ?_, va_K.moved hWm.alike hK, iv_E_moved hE hWm (fun q g1 g2 => by rw [hU]; exact hS.2.1 q g1 g2)⟩
    · rw [hU]; exact Nat.le_trans h0 hS.1
    · rw [hU]; exact hW
  have hgood : ∀ {y : MethodName} {bytes : ByteArray} {nn : Nat} {rt : Option FieldType}, Cond.code y bytes nn rt ∈ lw_g → GoodIn lw_g (Cond.code y bytes nn rt :: lw_g) := by
    intro y bytes nn rt hcd w hw
    rcases List.mem_cons.mp hw with rfl | hw
    · exact ⟨hcd, good_of_word (List.mem_filter.mp hcd).2⟩
    · exact ⟨hw, good_of_word (List.mem_filter.mp hw).2⟩
  have hlen : ∀ {y : MethodName} {j : Nat}, (parseMethodDescriptor y.desc).map (fun d => d.parameters.length) = some j → ∀ sig, parseMethodDescriptor y.desc = some sig → j = sig.parameters.length := by
    intro y j hj sig hsig
    rw [hsig] at hj
    exact (Option.some.inj hj).symm
  cases i <;> (first | (simp [iv_kd] at hi; done) | skip)
  case invokevirtual x =>
    obtain ⟨j, ⟨y, bytes, nn, rt, oc, hPa, hn40, hmh, hj, hbj, hcd, hini, hinst⟩, hrest⟩ := hcok
    obtain ⟨hlk, hsel, hcls⟩ := hrest y bytes nn rt oc hPa
    rw [if_neg (by decide)] at hbj hinst
    unfold iv_rcv at hrc
    dsimp only at hrc
    split at hrc
    · next q vs' =>
      have hrecv : ∃ cellB : Cell, H[iv_ad S0 ex q]? = some cellB ∧ cellB.vm.isStatics = false ∧ s.vm.findClass y.cls = some cellB.cls := by
        split at hrc
        · next hpr =>
          rw [if_pos hpr] at hcls
          obtain ⟨q', r', hq', hqb, n9, f9, hg9⟩ := hstr hpr
          cases hq'
          obtain ⟨v, g, hO, -⟩ := hE.2.2.2.2.2.1 q n9 f9 hqb ((hW.2.2.2 q hqb).symm.trans hg9)
          obtain ⟨cell, o1, o2, o3, o4⟩ := hO
          rw [hcls, iv_ad_ex hqb]
          exact ⟨cell, by rw [hS.2.1 _ (Array.getElem?_eq_some_iff.mp o1).1 o4]; exact o1, o2, o3⟩
        · next hpr =>
          rw [if_neg hpr] at hcls
          rw [hPa] at hrc
          dsimp only at hrc
          obtain ⟨fs, hfs⟩ := Option.isSome_iff_exists.mp hrc
          obtain ⟨hq, hg⟩ := iv_obj_ok hfs
          obtain ⟨T, N, hcl⟩ := hcls
          have he := iv_ws_at (S0 := S0) (ex := ex) (tc := tc) (G := h.2.2) hq
          rw [hg] at he
          rw [iv_ad_own (Nat.lt_of_lt_of_le hq hW.2.1)]
          exact va_recv hK hW.2.2.1 hcl he
      have hu2 : u.reverse = .ref q :: vs' := hvs.symm
      have hst2 : st.map (iv_tr (iv_ad S0 ex)) = (vs'.map (iv_tr (iv_ad S0 ex))).reverse ++ .ref (iv_ad S0 ex q) :: rest.map (iv_tr (iv_ad S0 ex)) := by
        rw [hst, show u = (Value.ref q :: vs').reverse by rw [← hu2, List.reverse_reverse], List.map_append, List.map_reverse, List.map_cons, List.reverse_cons, List.append_assoc]
        rfl
      have hlv : (vs'.map (iv_tr (iv_ad S0 ex))).length = j := by
        have := congrArg List.length hu2
        rw [List.length_reverse, List.length_cons, hu] at this
        rw [List.length_map]
        omega
      exact iv_called (va_runV (C := y.cls) (b := iv_ad S0 ex q) (As := vs'.map (iv_tr (iv_ad S0 ex))) (rest := rest.map (iv_tr (iv_ad S0 ex))) hfix (hM y bytes nn rt oc hPa) ⟨⟨rfl, rfl, hRf, by show 8 + (nn + 11) + 64 * d ≤ R.locals; omega, pay_in hts (hgood hcd), List.mem_cons_self, hts _ hcd, hts _ hini, hmh, hlen hj, hts _ hlk⟩, hts _ hinst, hts _ hsel⟩ ⟨iv_blind, hrecv, hpre⟩ rfl hlv (hls) hst2 hrm hd ⟨hRc, hRs⟩) hS k2
    · cases hrc
  case invokespecial x =>
    rcases hcok with ha | ⟨j, ⟨y, bytes, nn, rt, oc, hPa, hn40, hmh, hj, hbj, hcd, hini, hinst⟩, hrest⟩
    · rw [ha] at hi; simp [iv_kd] at hi
    · obtain ⟨hyn, hrt, hlk⟩ := hrest y bytes nn rt oc hPa
      subst hrt
      rw [if_neg (by decide)] at hbj hinst
      unfold iv_rcv at hrc
      dsimp only at hrc
      split at hrc
      · next q vs' =>
        have hu2 : u.reverse = .ref q :: vs' := hvs.symm
        have hst2 : st.map (iv_tr (iv_ad S0 ex)) = (vs'.map (iv_tr (iv_ad S0 ex))).reverse ++ .ref (iv_ad S0 ex q) :: rest.map (iv_tr (iv_ad S0 ex)) := by
          rw [hst, show u = (Value.ref q :: vs').reverse by rw [← hu2, List.reverse_reverse], List.map_append, List.map_reverse, List.map_cons, List.reverse_cons, List.append_assoc]
          rfl
        have hlv : (vs'.map (iv_tr (iv_ad S0 ex))).length = j := by
          have := congrArg List.length hu2
          rw [List.length_reverse, List.length_cons, hu] at this
          rw [List.length_map]
          omega
        rcases hlk with hlk | ⟨host, hlk⟩
        · exact iv_called (va_runI (b := iv_ad S0 ex q) (As := vs'.map (iv_tr (iv_ad S0 ex))) (rest := rest.map (iv_tr (iv_ad S0 ex))) hfix (hM y bytes nn none oc hPa) ⟨⟨rfl, rfl, hRf, by show 8 + (nn + 11) + 64 * d ≤ R.locals; omega, pay_in hts (hgood hcd), List.mem_cons_self, hts _ hcd, hts _ hini, hmh, hlen hj, hts _ hlk⟩, hyn, hts _ hinst⟩ ⟨iv_blind, hpre⟩ rfl hlv hls hst2 hrm hd ⟨hRc, hRs⟩) hS k2
        · exact iv_called (va_runIN (host := host) (b := iv_ad S0 ex q) (As := vs'.map (iv_tr (iv_ad S0 ex))) (rest := rest.map (iv_tr (iv_ad S0 ex))) hfix (hM y bytes nn none oc hPa) ⟨⟨⟨rfl, rfl, hRf, by show 8 + (nn + 11) + 64 * d ≤ R.locals; omega, pay_in hts (hgood hcd), List.mem_cons_self⟩, hts _ hcd, hts _ hini, hmh, hlen hj, va_Nw.use rfl (hE.2.2.1 _ hlk)⟩, hyn, hts _ hinst⟩ ⟨iv_blind, hpre⟩ rfl hlv hls hst2 hrm hd ⟨hRc, hRs⟩) hS k2
      · cases hrc
  case invokestatic x =>
    rcases hcok with ha | ⟨j, y, bytes, nn, rt, oc, hPa, hn40, hmh, hj, hbj, hcd, hini, hstl⟩
    · rcases ha with ha | ha | ha <;> (rw [ha] at hi; simp [iv_kd] at hi)
    · rw [if_pos rfl] at hbj hstl
      have hst2 : st.map (iv_tr (iv_ad S0 ex)) = (vs.map (iv_tr (iv_ad S0 ex))).reverse ++ rest.map (iv_tr (iv_ad S0 ex)) := by
        rw [hst, hvs, List.map_append, List.map_reverse, List.reverse_reverse]
      have hlv : (vs.map (iv_tr (iv_ad S0 ex))).length = j := by
        rw [List.length_map, hvs, List.length_reverse, hu, hbj]
      exact iv_called (va_runS (As := vs.map (iv_tr (iv_ad S0 ex))) (rest := rest.map (iv_tr (iv_ad S0 ex))) hfix (hM y bytes nn rt oc hPa) ⟨⟨rfl, rfl, hRf, by show 8 + (nn + 11) + 64 * d ≤ R.locals; omega, pay_in hts (hgood hcd), List.mem_cons_self, hts _ hcd, hts _ hini, hmh, hlen hj, hts _ hstl.2⟩, hts _ hstl.1⟩ ⟨iv_blind, hpre⟩ rfl hlv hls hst2 hrm hd ⟨hRc, hRs⟩) hS k2
end IV6
