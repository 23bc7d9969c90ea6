-- String.length AND String.charAt OF A CONSTANT TEXT, on the machine
abbrev sp_yC : MethodName := yJ0_coder_7d493
abbrev sp_yI : MethodName := yJ0_isLatin1_aae02
abbrev sp_yA : MethodName := yJ1_charAt_3b067
abbrev sp_yK : MethodName := yJ0_checkIndex_df160
abbrev sp_yP : MethodName := yJ3_checkIndex_8e157
set_option maxRecDepth 100000 in
theorem sp_words : (iv_atb 772 (Cond.fieldLink RJ0 38 RJ0 "COMPACT_STRINGS" "Z") && iv_atb 2462 (Cond.fieldLink RJ0 15 RJ0 "coder" "B") && iv_atb 2461 (Cond.fieldLink RJ0 9 RJ0 "value" "[B") && iv_atb 788 (Cond.fieldLink RJ0 1053 RJ3 "SIOOBE_FORMATTER" "Ljava/util/function/BiFunction;") &&
  iv_atb 768 (Cond.methodLink RJ0 335 sp_yC) && iv_atb 778 (Cond.methodLink RJ0 492 sp_yI) && iv_atb 782 (Cond.methodLink RJ0 495 sp_yA) && iv_atb 785 (Cond.methodLink RJ1 9 sp_yK) && iv_atb 790 (Cond.methodLink RJ0 1059 sp_yP) &&
  iv_atb 769 (Cond.instanceMethod sp_yC) && iv_atb 779 (Cond.instanceMethod sp_yI) && iv_atb 770 (Cond.selects RJ0 sp_yC sp_yC) && iv_atb 780 (Cond.selects RJ0 sp_yI sp_yI) && iv_atb 783 (Cond.static sp_yA) && iv_atb 786 (Cond.static sp_yK) && iv_atb 791 (Cond.static sp_yP) && iv_atb 162 (Cond.initialized RJ0) && iv_atb 163 (Cond.initialized RJ1) && iv_atb 164 (Cond.initialized RJ3)) = true := by decide +kernel
theorem sp_code {y : MethodName} {c : ByteArray} {n : Nat} {rt : Option FieldType} (i : Nat) (h : lw_tbl[i]? = some (Cond.code y c n rt)) : Cond.code y c n rt ∈ lw_g := List.mem_filter.mpr ⟨List.mem_of_getElem? h, rfl⟩
set_option maxRecDepth 100000 in
theorem sp_cC : Cond.code sp_yC cJ0_coder_7d493 1 (some .byte) ∈ lw_g := sp_code 771 rfl
set_option maxRecDepth 100000 in
theorem sp_cI : Cond.code sp_yI cJ0_isLatin1_aae02 1 (some .boolean) ∈ lw_g := sp_code 781 rfl
set_option maxRecDepth 100000 in
theorem sp_cA : Cond.code sp_yA cJ1_charAt_3b067 2 (some .char) ∈ lw_g := sp_code 784 rfl
set_option maxRecDepth 100000 in
theorem sp_cK : Cond.code sp_yK cJ0_checkIndex_df160 2 none ∈ lw_g := sp_code 787 rfl
set_option maxRecDepth 100000 in
theorem sp_cP : Cond.code sp_yP cJ3_checkIndex_8e157 3 (some .int) ∈ lw_g := sp_code 792 rfl
section SP1
variable {l : Launch} {D : va_G} {S0 : Nat} {ex : Nat → Nat} {tc : Nat → ClassId} {X : Nat → iv_C} {tx : List (String × Nat × String × Nat)} {h : iv_H}
def sp_P (D : va_G) (S0 : Nat) (ex : Nat → Nat) (tc : Nat → ClassId) (X : Nat → iv_C) (tx : List (String × Nat × String × Nat)) (av : List Value) (h : iv_H) : Array Value → State → Prop := va_Pc av (fun U => S0 ≤ U.heap.size ∧ iv_Wo D S0 ex tc X h U.heap ∧ va_K D vwCl (iv_tys tc) U ∧ iv_E S0 ex X tx U)
theorem sp_blind {av : List Value} : FrameBlind (sp_P D S0 ex tc X tx av h) := by
  intro a U g mk hp
  obtain ⟨h1, h2, h3, h4, h5⟩ := hp
  exact ⟨h1, h2, h3, va_K.moved (u := U) (U := U.calling g mk a) (Vm.Alike.refl U.vm) h4, iv_E_moved (s := U) (U := U.calling g mk a) h5 (State.WarmedH.refl U) (fun _ _ _ => rfl)⟩
def sp_M (l : Launch) (D : va_G) (S0 : Nat) (ex : Nat → Nat) (tc : Nat → ClassId) (X : Nat → iv_C) (tx : List (String × Nat × String × Nat)) (h : iv_H) (d : Nat) (y : MethodName) (cc : ByteArray) (n : Nat) (rt : Option FieldType) (av : List Value) (r : Option Value) : Prop := Met l y (Cond.code y cc n rt :: lw_g) (iv_rm d 0 0) (sp_P D S0 ex tc X tx av h) (iv_Qc D S0 ex tc X r h) 0 0 (fun q => S0 ≤ q)
theorem sp_of {d n : Nat} {y : MethodName} {cc : ByteArray} {rt : Option FieldType} {av : List Value} {r : Option Value} (hpl : plainName y.cls = true) (hlen : (lg_sl av).length ≤ n)
    (body : ∀ (p : Program) (e : Env) (s : State) (m : MethodId) (below : List Frame) (meth : Method) (c : Code) (ls : Array Slot), p.tables.exec = Jvm.exec → c.code = cc → meth.sig.returnType = rt → c.maxLocals = n → s.vm.findClass y.cls = some m.cls → (∀ w ∈ lw_g, w.before av.toArray s = true) → meth.locks = false → S0 ≤ s.heap.size → iv_Wo D S0 ex tc X h s.heap → va_K D vwCl (iv_tys tc) s → iv_E S0 ex X tx s → lv_has ls n (lv_args 0 av) →
      W p l e (iv_rm d 0 0) s m av.toArray below meth c s.heap [] 0 0 (MQ below (iv_Qc D S0 ex tc X r h) av.toArray s 0 0 (fun q => S0 ≤ q)) (F0 m 0 ls [])) : sp_M l D S0 ex tc X tx h d y cc n rt av r := by
  refine Met.ofW (cc := cc) (maxL := n) (ret := rt) hpl rfl ?_
  intro p e s m args below meth c s₁ B hml hv
  obtain ⟨rfl, h0, hW, hK, hE⟩ := hv
  have hts0 := atoms_spec (ws := Cond.code y cc n rt :: lw_g) B.pre
  rw [lg_entry_eq]
  exact body p e s m below meth c _ B.exec B.bytes B.returns hml (findClass_of_methodNamed B.named) (fun w hw => hts0 w (List.mem_cons_of_mem _ hw)) B.notSynchronized h0 hW hK hE (lv_entry av hlen)
theorem sp_good {y : MethodName} {bytes : ByteArray} {nn : Nat} {rt : Option FieldType} (hcd : Cond.code y bytes nn rt ∈ lw_g) : GoodIn lw_g (Cond.code y bytes nn rt :: lw_g) := by
  intro w hw
  rcases List.mem_cons.mp hw with rfl | hw
  · exact ⟨hcd, good_of_word (List.mem_filter.mp hcd).2⟩
  · exact ⟨hw, good_of_word (List.mem_filter.mp hw).2⟩
end SP1
section SP2
variable {p : Program} {l : Launch} {e : Env} {R : Room} {s : State} {m : MethodId} {args : Array Value} {below : List Frame} {meth : Method} {c : Code} {H : Heap} {locs : List Loc} {cells slots : Nat} {Q : State → Prop}
variable {cc : ByteArray} {pc : Nat} {ls : Array Slot} {rest : List Value} {D : va_G} {S0 : Nat} {ex : Nat → Nat} {tc : Nat → ClassId} {X : Nat → iv_C} {tx : List (String × Nat × String × Nat)} {h : iv_H}
theorem sp_pre {av : List Value} (h0 : S0 ≤ s.heap.size) (hW : iv_Wo D S0 ex tc X h H) (hK : va_K D vwCl (iv_tys tc) s) (hE : iv_E S0 ex X tx s) (hS : va_S (fun q : Nat => S0 ≤ q) s.heap H locs) : ∀ U : State, U.heap = H → s.WarmedH U.vm → sp_P D S0 ex tc X tx av h av.toArray U := by
  intro U hU hWm
  refine ⟨rfl, ?_, ?_, va_K.moved hWm.alike hK, iv_E_moved hE hWm (fun q g1 g2 => by rw [hU]; exact hS.2.1 q g1 g2)⟩
  · rw [hU]; exact Nat.le_trans h0 hS.1
  · rw [hU]; exact hW
/-- a static method of the JDK is called -/
theorem sp_callS {d n j index nL : Nat} {own : String} {y : MethodName} {bytes : ByteArray} {rt : Option FieldType} {As : List Value} {r : Option Value} (hx : p.tables.exec = Jvm.exec) (hb : c.code = cc) (hml : c.maxLocals = nL) (hls : ls.size = nL) (hown : s.vm.findClass own = some m.cls) (hts : ∀ w ∈ lw_g, w.before args s = true) (hS : va_S (fun q : Nat => S0 ≤ q) s.heap H locs)
    {Pc : Array Value → State → Prop} (hM : Met l y (Cond.code y bytes n rt :: lw_g) (iv_rm d 0 0) Pc (iv_Qc D S0 ex tc X r h) 0 0 (fun q => S0 ≤ q)) (hbl : FrameBlind Pc) (hpre : ∀ U : State, U.heap = H → s.WarmedH U.vm → Pc As.toArray U) (hcd : Cond.code y bytes n rt ∈ lw_g) (hlk : Cond.methodLink own index y ∈ lw_g) (hst : Cond.static y ∈ lw_g) (hini : Cond.initialized y.cls ∈ lw_g) (hmh : y.cls ≠ "java/lang/invoke/MethodHandle" ∧ y.cls ≠ "java/lang/invoke/VarHandle") (hj : (parseMethodDescriptor y.desc).map (fun d => d.parameters.length) = some j) (hAj : As.length = j) (hn : n ≤ 40) (hRf : d + 1 ≤ R.frames) (hRl : 64 * d + 64 ≤ R.locals) (hc : cells ≤ R.cells) (hsl : slots ≤ R.slots) (h8 : (rest.map fun v => v.category).sum ≤ 8) (hdg : decode cc pc = .ok (.invokestatic index, 3))
    (k : ∀ H' locs', iv_Wo D S0 ex tc X h H' → va_S (fun q : Nat => S0 ≤ q) s.heap H' locs' → W p l e R s m args below meth c H' locs' cells slots Q (F0 m (pc + 3) ls ((r.map (iv_tr (iv_ad S0 ex))).toList ++ rest))) : W p l e R s m args below meth c H locs cells slots Q (F0 m pc ls (As.reverse ++ rest)) :=
  iv_called (mc := 0) (ms := 0) (va_runS (As := As) (rest := rest) ⟨hx, hb, hml, hown, hts⟩ hM ⟨⟨rfl, rfl, hRf, by show 8 + (n + 11) + 64 * d ≤ R.locals; omega, pay_in hts (sp_good hcd), List.mem_cons_self, hts _ hcd, hts _ hini, hmh, fun sig hs => by rw [hs] at hj; exact (Option.some.inj hj).symm, hts _ hlk⟩, hts _ hst⟩ ⟨hbl, hpre⟩ rfl hAj hls rfl (lv_room h8) hdg ⟨hc, hsl⟩) hS k
/-- a member of a constant text is called -/
theorem sp_callV {d n j index nL t nt : Nat} {f : Nat → Int32} {own : String} {y : MethodName} {bytes : ByteArray} {rt : Option FieldType} {As : List Value} {r : Option Value} (hx : p.tables.exec = Jvm.exec) (hb : c.code = cc) (hml : c.maxLocals = nL) (hls : ls.size = nL) (hown : s.vm.findClass own = some m.cls) (hts : ∀ w ∈ lw_g, w.before args s = true) (h0 : S0 ≤ s.heap.size) (hW : iv_Wo D S0 ex tc X h H) (hK : va_K D vwCl (iv_tys tc) s) (hE : iv_E S0 ex X tx s) (hS : va_S (fun q : Nat => S0 ≤ q) s.heap H locs) (hT : iv_Tx t nt f (fun q => S0 ≤ q) s s.heap)
    (hM : sp_M l D S0 ex tc X tx h d y bytes n rt (.ref t :: As) r) (hcd : Cond.code y bytes n rt ∈ lw_g) (hlk : Cond.methodLink own index y ∈ lw_g) (hst : Cond.instanceMethod y ∈ lw_g) (hsel : Cond.selects RJ0 y y ∈ lw_g) (hini : Cond.initialized y.cls ∈ lw_g) (hmh : y.cls ≠ "java/lang/invoke/MethodHandle" ∧ y.cls ≠ "java/lang/invoke/VarHandle") (hj : (parseMethodDescriptor y.desc).map (fun d => d.parameters.length) = some j) (hAj : As.length = j) (hn : n ≤ 40) (hRf : d + 1 ≤ R.frames) (hRl : 64 * d + 64 ≤ R.locals) (hc : cells ≤ R.cells) (hsl : slots ≤ R.slots) (h8 : (rest.map fun v => v.category).sum ≤ 8) (hdg : decode cc pc = .ok (.invokevirtual index, 3))
    (k : ∀ H' locs', iv_Wo D S0 ex tc X h H' → va_S (fun q : Nat => S0 ≤ q) s.heap H' locs' → W p l e R s m args below meth c H' locs' cells slots Q (F0 m (pc + 3) ls ((r.map (iv_tr (iv_ad S0 ex))).toList ++ rest))) : W p l e R s m args below meth c H locs cells slots Q (F0 m pc ls (As.reverse ++ .ref t :: rest)) := by
  obtain ⟨v, g, ⟨cell, o1, o2, o3, o4⟩, -⟩ := hT
  exact iv_called (mc := 0) (ms := 0) (va_runV (C := RJ0) (b := t) (As := As) (rest := rest) ⟨hx, hb, hml, hown, hts⟩ hM ⟨⟨rfl, rfl, hRf, by show 8 + (n + 11) + 64 * d ≤ R.locals; omega, pay_in hts (sp_good hcd), List.mem_cons_self, hts _ hcd, hts _ hini, hmh, fun sig hs => by rw [hs] at hj; exact (Option.some.inj hj).symm, hts _ hlk⟩, hts _ hst, hts _ hsel⟩ ⟨sp_blind, ⟨cell, by rw [hS.2.1 _ (Array.getElem?_eq_some_iff.mp o1).1 o4]; exact o1, o2, o3⟩, sp_pre h0 hW hK hE hS⟩ rfl hAj hls rfl (lv_room h8) hdg ⟨hc, hsl⟩) hS k
end SP2
section SP3
variable {l : Launch} {D : va_G} {S0 : Nat} {ex : Nat → Nat} {tc : Nat → ClassId} {X : Nat → iv_C} {tx : List (String × Nat × String × Nat)} {h : iv_H}
theorem sp_wd : Cond.fieldLink RJ0 38 RJ0 "COMPACT_STRINGS" "Z" ∈ lw_g ∧ Cond.fieldLink RJ0 15 RJ0 "coder" "B" ∈ lw_g ∧ Cond.fieldLink RJ0 9 RJ0 "value" "[B" ∈ lw_g ∧ Cond.fieldLink RJ0 1053 RJ3 "SIOOBE_FORMATTER" "Ljava/util/function/BiFunction;" ∈ lw_g ∧ Cond.methodLink RJ0 335 sp_yC ∈ lw_g ∧ Cond.methodLink RJ0 492 sp_yI ∈ lw_g ∧ Cond.methodLink RJ0 495 sp_yA ∈ lw_g ∧ Cond.methodLink RJ1 9 sp_yK ∈ lw_g ∧ Cond.methodLink RJ0 1059 sp_yP ∈ lw_g ∧
    Cond.instanceMethod sp_yC ∈ lw_g ∧ Cond.instanceMethod sp_yI ∈ lw_g ∧ Cond.selects RJ0 sp_yC sp_yC ∈ lw_g ∧ Cond.selects RJ0 sp_yI sp_yI ∈ lw_g ∧ Cond.static sp_yA ∈ lw_g ∧ Cond.static sp_yK ∈ lw_g ∧ Cond.static sp_yP ∈ lw_g ∧ Cond.initialized RJ0 ∈ lw_g ∧ Cond.initialized RJ1 ∈ lw_g ∧ Cond.initialized RJ3 ∈ lw_g := by
  have hw := sp_words
  simp only [Bool.and_eq_true] at hw
  obtain ⟨⟨⟨⟨⟨⟨⟨⟨⟨⟨⟨⟨⟨⟨⟨⟨⟨⟨w1, w2⟩, w3⟩, w4⟩, w5⟩, w6⟩, w7⟩, w8⟩, w9⟩, w10⟩, w11⟩, w12⟩, w13⟩, w14⟩, w15⟩, w16⟩, w17⟩, w18⟩, w19⟩ := hw
  exact ⟨iv_atb_ok w1, iv_atb_ok w2, iv_atb_ok w3, iv_atb_ok w4, iv_atb_ok w5, iv_atb_ok w6, iv_atb_ok w7, iv_atb_ok w8, iv_atb_ok w9, iv_atb_ok w10, iv_atb_ok w11, iv_atb_ok w12, iv_atb_ok w13, iv_atb_ok w14, iv_atb_ok w15, iv_atb_ok w16, iv_atb_ok w17, iv_atb_ok w18, iv_atb_ok w19⟩
/-- coder() -/
theorem sp_coder {t n : Nat} {f : Nat → Int32} (d : Nat) (hX : ∀ U, iv_E S0 ex X tx U → iv_Tx t n f (fun q => S0 ≤ q) U U.heap) : sp_M l D S0 ex tc X tx h d sp_yC cJ0_coder_7d493 1 (some .byte) [.ref t] (some (.int 0)) := by
  refine sp_of (by decide) (Nat.le_of_ble_eq_true rfl) ?_
  intro p e s m below meth c ls hx hb hr hml hown hts hlocks h0 hW hK hE hl
  obtain ⟨v, g, hO, hcd, hva, hT, -⟩ := hX s hE
  have hS : va_S (fun q : Nat => S0 ≤ q) s.heap s.heap [] := va_S.rf
  refine va_gets hx hb hE.2.2.2.2.2.2.1 hS hown (hts _ sp_wd.1) (fun _ z => z) (by decide +kernel : decode cJ0_coder_7d493 0 = .ok (.getstatic 38, 3)) ?_
  refine lv_if_eq (tgt := 13) hx hb (by decide +kernel : decode cJ0_coder_7d493 3 = .ok (.ifCond .eq 10, 3)) (by decide) (fun z => absurd z (by decide)) (fun _ => ?_)
  refine lv_aload_n hx hb (by decide +kernel : decode cJ0_coder_7d493 6 = .ok (.aload_n 0, 1)) rfl (lv_at hl 0 rfl) ?_
  refine vk_getf hx hb hcd hS hown (hts _ sp_wd.2.1) (fun _ z => z) (by decide +kernel : decode cJ0_coder_7d493 7 = .ok (.getfield 15, 3)) ?_
  refine lv_goto (tgt := 14) hx hb (by decide +kernel : decode cJ0_coder_7d493 10 = .ok (.goto 4, 3)) (by decide) ?_
  exact W.zret hx hb hr rfl (fun t ht _ => ⟨rfl, by rw [ht]; exact hW, hS.F ht⟩) (fun q hq => absurd hq List.not_mem_nil) (by decide +kernel)
/-- isLatin1() -/
theorem sp_latin {t n : Nat} {f : Nat → Int32} (d : Nat) (hX : ∀ U, iv_E S0 ex X tx U → iv_Tx t n f (fun q => S0 ≤ q) U U.heap) : sp_M l D S0 ex tc X tx h d sp_yI cJ0_isLatin1_aae02 1 (some .boolean) [.ref t] (some (.int 1)) := by
  refine sp_of (by decide) (Nat.le_of_ble_eq_true rfl) ?_
  intro p e s m below meth c ls hx hb hr hml hown hts hlocks h0 hW hK hE hl
  obtain ⟨v, g, hO, hcd, hva, hT, -⟩ := hX s hE
  have hS : va_S (fun q : Nat => S0 ≤ q) s.heap s.heap [] := va_S.rf
  refine va_gets hx hb hE.2.2.2.2.2.2.1 hS hown (hts _ sp_wd.1) (fun _ z => z) (by decide +kernel : decode cJ0_isLatin1_aae02 0 = .ok (.getstatic 38, 3)) ?_
  refine lv_if_eq (tgt := 17) hx hb (by decide +kernel : decode cJ0_isLatin1_aae02 3 = .ok (.ifCond .eq 14, 3)) (by decide) (fun z => absurd z (by decide)) (fun _ => ?_)
  refine lv_aload_n hx hb (by decide +kernel : decode cJ0_isLatin1_aae02 6 = .ok (.aload_n 0, 1)) rfl (lv_at hl 0 rfl) ?_
  refine vk_getf hx hb hcd hS hown (hts _ sp_wd.2.1) (fun _ z => z) (by decide +kernel : decode cJ0_isLatin1_aae02 7 = .ok (.getfield 15, 3)) ?_
  refine lv_if_ne (tgt := 17) hx hb (by decide +kernel : decode cJ0_isLatin1_aae02 10 = .ok (.ifCond .ne 7, 3)) (by decide) (fun z => absurd rfl z) (fun _ => ?_)
  refine lv_iconst (v := 1) hx hb (by decide +kernel : decode cJ0_isLatin1_aae02 13 = .ok (.iconst 1, 1)) (by decide) ?_
  refine lv_goto (tgt := 18) hx hb (by decide +kernel : decode cJ0_isLatin1_aae02 14 = .ok (.goto 4, 3)) (by decide) ?_
  exact W.zret hx hb hr rfl (fun t ht _ => ⟨rfl, by rw [ht]; exact hW, hS.F ht⟩) (fun q hq => absurd hq List.not_mem_nil) (by decide +kernel)
/-- Preconditions.checkIndex within its range -/
theorem sp_prec {i n : Int32} {v : Value} (d : Nat) (hv : v.category = 1) (h1 : ¬ i < 0) (h2 : i < n) : sp_M l D S0 ex tc X tx h d sp_yP cJ3_checkIndex_8e157 3 (some .int) [.int i, .int n, v] (some (.int i)) := by
  refine sp_of (by decide) (by cases v <;> first | exact Nat.le_of_ble_eq_true rfl | (simp [Value.category] at hv; done)) ?_
  intro p e s m below meth c ls hx hb hr hml hown hts hlocks h0 hW hK hE hl
  have hS : va_S (fun q : Nat => S0 ≤ q) s.heap s.heap [] := va_S.rf
  refine lv_iload_n hx hb (by decide +kernel : decode cJ3_checkIndex_8e157 0 = .ok (.iload_n 0, 1)) rfl (lv_at hl 0 rfl) ?_
  refine lv_if_lt (tgt := 9) hx hb (by decide +kernel : decode cJ3_checkIndex_8e157 1 = .ok (.ifCond .lt 8, 3)) (by decide) (fun z => absurd z h1) (fun _ => ?_)
  refine lv_iload_n hx hb (by decide +kernel : decode cJ3_checkIndex_8e157 4 = .ok (.iload_n 0, 1)) rfl (lv_at hl 0 rfl) ?_
  refine lv_iload_n hx hb (by decide +kernel : decode cJ3_checkIndex_8e157 5 = .ok (.iload_n 1, 1)) rfl (lv_at hl 1 rfl) ?_
  refine lv_icmp_lt (tgt := 16) hx hb (by decide +kernel : decode cJ3_checkIndex_8e157 6 = .ok (.if_icmp .lt 10, 3)) (by decide) (fun _ => ?_) (fun z => absurd h2 z)
  refine lv_iload_n hx hb (by decide +kernel : decode cJ3_checkIndex_8e157 16 = .ok (.iload_n 0, 1)) rfl (lv_at hl 0 rfl) ?_
  exact W.iret hx hb hr (fun t ht _ => ⟨rfl, by rw [ht]; exact hW, hS.F ht⟩) (fun q hq => absurd hq List.not_mem_nil) (by decide +kernel)
/-- String.checkIndex within its range -/
theorem sp_check {i n : Int32} (d : Nat) (h1 : ¬ i < 0) (h2 : i < n) : sp_M l D S0 ex tc X tx h (d + 1) sp_yK cJ0_checkIndex_df160 2 none [.int i, .int n] none := by
  refine sp_of (by decide) (Nat.le_of_ble_eq_true rfl) ?_
  intro p e s m below meth c ls hx hb hr hml hown hts hlocks h0 hW hK hE hl
  have hS : va_S (fun q : Nat => S0 ≤ q) s.heap s.heap [] := va_S.rf
  refine lv_iload_n hx hb (by decide +kernel : decode cJ0_checkIndex_df160 0 = .ok (.iload_n 0, 1)) rfl (lv_at hl 0 rfl) ?_
  refine lv_iload_n hx hb (by decide +kernel : decode cJ0_checkIndex_df160 1 = .ok (.iload_n 1, 1)) rfl (lv_at hl 1 rfl) ?_
  have go : ∀ v : Value, v.category = 1 → va_Z "jdk/internal/util/Preconditions" "SIOOBE_FORMATTER" "Ljava/util/function/BiFunction;" v (fun q => S0 ≤ q) s s.heap → W p l e (iv_rm (d + 1) 0 0) s m [Value.int i, Value.int n].toArray below meth c s.heap [] 0 0 (MQ below (iv_Qc D S0 ex tc X none h) [Value.int i, Value.int n].toArray s 0 0 (fun q => S0 ≤ q)) (F0 m 2 ls [.int n, .int i]) := by
    intro v hv hZ
    refine va_gets hx hb hZ hS hown (hts _ sp_wd.2.2.2.1) (fun _ z => z) (by decide +kernel : decode cJ0_checkIndex_df160 2 = .ok (.getstatic 1053, 3)) ?_
    refine sp_callS (d := d) (As := [.int i, .int n, v]) (rest := []) hx hb hml hl.1 hown hts hS (sp_prec d hv h1 h2) sp_blind (sp_pre h0 hW hK hE hS) sp_cP sp_wd.2.2.2.2.2.2.2.2.1 sp_wd.2.2.2.2.2.2.2.2.2.2.2.2.2.2.2.1 sp_wd.2.2.2.2.2.2.2.2.2.2.2.2.2.2.2.2.2.2 ⟨by decide, by decide⟩ (j := 3) (by decide +kernel) rfl (by decide) (Nat.le_refl _) (by show 64 * d + 64 ≤ 64 * (d + 1); omega) (Nat.le_refl _) (Nat.le_refl _) (by decide) (by decide +kernel : decode cJ0_checkIndex_df160 5 = .ok (.invokestatic 1059, 3)) (fun H' locs' hW' hS' => ?_)
    refine lv_pop hx hb (by decide +kernel : decode cJ0_checkIndex_df160 8 = .ok (.pop, 1)) rfl ?_
    exact W.vret hx hb hr (fun t ht _ => ⟨rfl, by rw [ht]; exact hW', hS'.F ht⟩) hS'.2.2 (by decide +kernel)
  rcases hE.2.2.2.2.2.2.2.1 with hZ | ⟨t, hZ⟩
  · exact go .null rfl hZ
  · exact go (.ref t) rfl hZ
def sp_P2 (D : va_G) (S0 : Nat) (ex : Nat → Nat) (tc : Nat → ClassId) (X : Nat → iv_C) (tx : List (String × Nat × String × Nat)) (av : List Value) (h : iv_H) (v n : Nat) (g : Nat → Int32) : Array Value → State → Prop := fun a U => sp_P D S0 ex tc X tx av h a U ∧ va_T .byte v n (fun j => .int (g j)) (fun q => S0 ≤ q) U U.heap
theorem sp_blind2 {av : List Value} {v n : Nat} {g : Nat → Int32} : FrameBlind (sp_P2 D S0 ex tc X tx av h v n g) := by
  intro a U f mk hp
  exact ⟨sp_blind a U f mk hp.1, va_T.moved (u := U) (U := U.calling f mk a) (Vm.Alike.refl U.vm) hp.2⟩
/-- StringLatin1.charAt -/
theorem sp_lchar {n v : Nat} {g : Nat → Int32} {i : Int32} (d : Nat) (hn : n < 2 ^ 31) (hi : vp_in i n) : Met l sp_yA (Cond.code sp_yA cJ1_charAt_3b067 2 (some .char) :: lw_g) (iv_rm (d + 2) 0 0) (sp_P2 D S0 ex tc X tx [.ref v, .int i] h v n g) (iv_Qc D S0 ex tc X (some (.int (g i.toNatClampNeg &&& 255))) h) 0 0 (fun q => S0 ≤ q) := by
  refine Met.ofW (cc := cJ1_charAt_3b067) (maxL := 2) (ret := some .char) (by decide) rfl ?_
  intro p e s m args below meth c s₁ B hml hv
  obtain ⟨⟨rfl, h0, hW, hK, hE⟩, hT⟩ := hv
  have hts0 := atoms_spec (ws := Cond.code sp_yA cJ1_charAt_3b067 2 (some .char) :: lw_g) B.pre
  have hx := B.exec
  have hb := B.bytes
  have hr := B.returns
  have hlocks := B.notSynchronized
  have hown : s.vm.findClass RJ1 = some m.cls := findClass_of_methodNamed B.named
  have hts : ∀ w ∈ lw_g, w.before _ s = true := fun w hw => hts0 w (List.mem_cons_of_mem _ hw)
  rw [lg_entry_eq]
  have hl := lv_entry [Value.ref v, Value.int i] (n := 2) (Nat.le_of_ble_eq_true rfl)
  generalize (lg_sl [Value.ref v, Value.int i] ++ List.replicate (2 - (lg_sl [Value.ref v, Value.int i]).length) Slot.unset).toArray = ls at hl ⊢
  have hS : va_S (fun q : Nat => S0 ≤ q) s.heap s.heap [] := va_S.rf
  obtain ⟨j, hj, rfl⟩ := vp_in_of hi hn
  refine lv_iload_n hx hb (by decide +kernel : decode cJ1_charAt_3b067 0 = .ok (.iload_n 1, 1)) rfl (lv_at hl 1 rfl) ?_
  refine lv_aload_n hx hb (by decide +kernel : decode cJ1_charAt_3b067 1 = .ok (.aload_n 0, 1)) rfl (lv_at hl 0 rfl) ?_
  refine va_tlen hx hb hT hS rfl (by decide +kernel : decode cJ1_charAt_3b067 2 = .ok (.arraylength, 1)) ?_
  refine sp_callS (d := d + 1) (As := [.int (nI j), .int (nI n)]) (rest := []) hx hb hml hl.1 hown hts hS (sp_check d (nI_pos (by omega)) (nI_lt hj hn)) sp_blind (sp_pre h0 hW hK hE hS) sp_cK sp_wd.2.2.2.2.2.2.2.1 sp_wd.2.2.2.2.2.2.2.2.2.2.2.2.2.2.1 sp_wd.2.2.2.2.2.2.2.2.2.2.2.2.2.2.2.2.1 ⟨by decide, by decide⟩ (j := 2) (by decide +kernel) rfl (by decide) (Nat.le_refl _) (by show 64 * (d + 1) + 64 ≤ 64 * (d + 2); omega) (Nat.le_refl _) (Nat.le_refl _) (by decide) (by decide +kernel : decode cJ1_charAt_3b067 3 = .ok (.invokestatic 9, 3)) (fun H' locs' hW' hS' => ?_)
  refine lv_aload_n hx hb (by decide +kernel : decode cJ1_charAt_3b067 6 = .ok (.aload_n 0, 1)) rfl (lv_at hl 0 rfl) ?_
  refine lv_iload_n hx hb (by decide +kernel : decode cJ1_charAt_3b067 7 = .ok (.iload_n 1, 1)) rfl (lv_at hl 1 rfl) ?_
  refine va_tb hx hb hT hS' hi rfl (by decide +kernel : decode cJ1_charAt_3b067 8 = .ok (.baload, 1)) ?_
  refine lv_sipush (v := 255) hx hb (by decide +kernel : decode cJ1_charAt_3b067 9 = .ok (.sipush 255, 3)) (by decide) ?_
  refine lv_iand hx hb (by decide +kernel : decode cJ1_charAt_3b067 12 = .ok (.iand, 1)) ?_
  refine lv_i2c hx hb (by decide +kernel : decode cJ1_charAt_3b067 13 = .ok (.i2c, 1)) (sc_c2 _) ?_
  exact W.zret hx hb hr (sc_nar _) (fun t ht _ => ⟨rfl, by rw [ht]; exact hW', hS'.F ht⟩) hS'.2.2 (by decide +kernel)
end SP3
section SP4
variable {l : Launch} {D : va_G} {S0 : Nat} {ex : Nat → Nat} {tc : Nat → ClassId} {X : Nat → iv_C} {tx : List (String × Nat × String × Nat)}
/-- length() -/
theorem sp_length {q n : Nat} {f : Nat → Int32} {h : iv_H} (d : Nat) (hq : iv_big ≤ q) (hg : h.2.2 q = .inl (9, n, .inl f)) : sp_M l D S0 ex tc X tx h (d + 1) yJ0_length_8abf5 cJ0_length_8abf5 1 (some .int) [.ref (ex q)] (some (.int (Int32.ofNat n))) := by
  refine sp_of (by decide) (Nat.le_of_ble_eq_true rfl) ?_
  intro p e s m below meth c ls hx hb hr hml hown hts hlocks h0 hW hK hE hl
  have hXq : X q = .inl (9, n, .inl f) := (hW.2.2.2 q hq).symm.trans hg
  have hXa : ∀ U, iv_E S0 ex X tx U → iv_Tx (ex q) n f (fun q => S0 ≤ q) U U.heap := fun U hU => hU.2.2.2.2.2.1 q n f hq hXq
  obtain ⟨v, g, hO, hcd, hva, hT, hn, hfg⟩ := hXa s hE
  have hS : va_S (fun q : Nat => S0 ≤ q) s.heap s.heap [] := va_S.rf
  refine lv_aload_n hx hb (by decide +kernel : decode cJ0_length_8abf5 0 = .ok (.aload_n 0, 1)) rfl (lv_at hl 0 rfl) ?_
  refine vk_getf hx hb hva hS hown (hts _ sp_wd.2.2.1) (fun _ z => z) (by decide +kernel : decode cJ0_length_8abf5 1 = .ok (.getfield 9, 3)) ?_
  refine va_tlen hx hb hT hS rfl (by decide +kernel : decode cJ0_length_8abf5 4 = .ok (.arraylength, 1)) ?_
  refine lv_aload_n hx hb (by decide +kernel : decode cJ0_length_8abf5 5 = .ok (.aload_n 0, 1)) rfl (lv_at hl 0 rfl) ?_
  refine sp_callV (d := d) (As := []) (rest := [.int (Int32.ofNat n)]) hx hb hml hl.1 hown hts h0 hW hK hE hS (hXa s hE) (sp_coder d hXa) sp_cC sp_wd.2.2.2.2.1 sp_wd.2.2.2.2.2.2.2.2.2.1 sp_wd.2.2.2.2.2.2.2.2.2.2.2.1 sp_wd.2.2.2.2.2.2.2.2.2.2.2.2.2.2.2.2.1 ⟨by decide, by decide⟩ (j := 0) (by decide +kernel) rfl (by decide) (Nat.le_refl _) (by show 64 * d + 64 ≤ 64 * (d + 1); omega) (Nat.le_refl _) (Nat.le_refl _) (Nat.le_of_ble_eq_true rfl) (by decide +kernel : decode cJ0_length_8abf5 6 = .ok (.invokevirtual 335, 3)) (fun H' locs' hW' hS' => ?_)
  refine lv_ishr hx hb (by decide +kernel : decode cJ0_length_8abf5 9 = .ok (.ishr, 1)) ?_
  have e1 : Int32.ofNat n >>> ((0 : Int32) &&& 31) = Int32.ofNat n := sb_shr0 _
  rw [e1]
  exact W.iret hx hb hr (fun t ht _ => ⟨rfl, by rw [ht]; exact hW', hS'.F ht⟩) hS'.2.2 (by decide +kernel)
/-- charAt(i) -/
theorem sp_charAt {q n : Nat} {f : Nat → Int32} {h : iv_H} {i : Int32} (d : Nat) (hq : iv_big ≤ q) (hg : h.2.2 q = .inl (9, n, .inl f)) (hi : vp_in i n) : sp_M l D S0 ex tc X tx h (d + 3) yJ0_charAt_5068e cJ0_charAt_5068e 2 (some .char) [.ref (ex q), .int i] (some (.int (f i.toNatClampNeg))) := by
  refine sp_of (by decide) (Nat.le_of_ble_eq_true rfl) ?_
  intro p e s m below meth c ls hx hb hr hml hown hts hlocks h0 hW hK hE hl
  have hXq : X q = .inl (9, n, .inl f) := (hW.2.2.2 q hq).symm.trans hg
  have hXa : ∀ U, iv_E S0 ex X tx U → iv_Tx (ex q) n f (fun q => S0 ≤ q) U U.heap := fun U hU => hU.2.2.2.2.2.1 q n f hq hXq
  have hS : va_S (fun q : Nat => S0 ≤ q) s.heap s.heap [] := va_S.rf
  refine lv_aload_n hx hb (by decide +kernel : decode cJ0_charAt_5068e 0 = .ok (.aload_n 0, 1)) rfl (lv_at hl 0 rfl) ?_
  refine sp_callV (d := d + 2) (As := []) (rest := []) hx hb hml hl.1 hown hts h0 hW hK hE hS (hXa s hE) (sp_latin (d + 2) hXa) sp_cI sp_wd.2.2.2.2.2.1 sp_wd.2.2.2.2.2.2.2.2.2.2.1 sp_wd.2.2.2.2.2.2.2.2.2.2.2.2.1 sp_wd.2.2.2.2.2.2.2.2.2.2.2.2.2.2.2.2.1 ⟨by decide, by decide⟩ (j := 0) (by decide +kernel) rfl (by decide) (Nat.le_refl _) (by show 64 * (d + 2) + 64 ≤ 64 * (d + 3); omega) (Nat.le_refl _) (Nat.le_refl _) (by decide) (by decide +kernel : decode cJ0_charAt_5068e 1 = .ok (.invokevirtual 492, 3)) (fun H' locs' hW' hS' => ?_)
  refine lv_if_eq (tgt := 16) hx hb (by decide +kernel : decode cJ0_charAt_5068e 4 = .ok (.ifCond .eq 12, 3)) (by decide) (fun z => absurd z (by decide)) (fun _ => ?_)
  obtain ⟨v, g, hO, hcd, hva, hT, hn, hfg⟩ := hXa s hE
  refine lv_aload_n hx hb (by decide +kernel : decode cJ0_charAt_5068e 7 = .ok (.aload_n 0, 1)) rfl (lv_at hl 0 rfl) ?_
  refine vk_getf hx hb hva hS' hown (hts _ sp_wd.2.2.1) (fun _ z => z) (by decide +kernel : decode cJ0_charAt_5068e 8 = .ok (.getfield 9, 3)) ?_
  refine lv_iload_n hx hb (by decide +kernel : decode cJ0_charAt_5068e 11 = .ok (.iload_n 1, 1)) rfl (lv_at hl 1 rfl) ?_
  have hlt : i.toNatClampNeg < n := Nat.not_le.mp fun z => hi (Or.inr z)
  refine sp_callS (d := d + 2) (As := [.ref v, .int i]) (rest := []) (r := some (.int (g i.toNatClampNeg &&& 255))) hx hb hml hl.1 hown hts hS' (sp_lchar d hn hi) sp_blind2 (fun U hU hWm => ⟨sp_pre h0 hW' hK hE hS' U hU hWm, (hT.kept (fun a g1 g2 => by rw [hU]; exact hS'.2.1 a g1 g2)).moved hWm.alike⟩) sp_cA sp_wd.2.2.2.2.2.2.1 sp_wd.2.2.2.2.2.2.2.2.2.2.2.2.2.1 sp_wd.2.2.2.2.2.2.2.2.2.2.2.2.2.2.2.2.2.1 ⟨by decide, by decide⟩ (j := 2) (by decide +kernel) rfl (by decide) (Nat.le_refl _) (by show 64 * (d + 2) + 64 ≤ 64 * (d + 3); omega) (Nat.le_refl _) (Nat.le_refl _) (by decide) (by decide +kernel : decode cJ0_charAt_5068e 12 = .ok (.invokestatic 495, 3)) (fun H' locs' hW' hS' => ?_)
  rw [hfg _ hlt]
  exact W.zret hx hb hr (sc_nar _) (fun t ht _ => ⟨rfl, by rw [ht]; exact hW', hS'.F ht⟩) hS'.2.2 (by decide +kernel)
theorem sp_str : iv_StrOk l PG D S0 ex tc X tx := by
  intro d a vs h r h' hd ha hh
  have e := iv_str_h hh
  subst e
  intro y cc n rt oc hP
  rw [Nat.sub_self, Nat.sub_self]
  unfold iv_str at hh
  split at hh
  · next q r' =>
    split at hh
    · next hq =>
      split at hh
      · next nn f hg =>
        split at hh
        · next ha1 =>
          subst ha1
          split at hh
          · cases hh
            cases hP
            have := sp_length (l := l) (D := D) (S0 := S0) (ex := ex) (tc := tc) (X := X) (tx := tx) d hq hg
            have e2 : ([Value.ref q].map (iv_tr (iv_ad S0 ex))) = [Value.ref (ex q)] := by show [Value.ref (iv_ad S0 ex q)] = _; rw [iv_ad_ex hq]
            unfold iv_Pc
            rw [e2]
            exact this
          · cases hh
        · next ha1 =>
          have ha2 : a = 9002 := by rcases ha with h | h; exact absurd h ha1; exact h
          subst ha2
          split at hh
          · next i =>
            split at hh
            · next hi =>
              cases hh
              cases hP
              obtain ⟨d, rfl⟩ : ∃ k, d = k + 2 := ⟨d - 2, by omega⟩
              have := sp_charAt (l := l) (D := D) (S0 := S0) (ex := ex) (tc := tc) (X := X) (tx := tx) d hq hg (iv_oub_ok hi)
              have e2 : ([Value.ref q, Value.int i].map (iv_tr (iv_ad S0 ex))) = [Value.ref (ex q), Value.int i] := by show [Value.ref (iv_ad S0 ex q), Value.int i] = _; rw [iv_ad_ex hq]
              unfold iv_Pc
              rw [e2]
              exact this
            · cases hh
          · cases hh
      · cases hh
    · cases hh
  · cases hh
end SP4
