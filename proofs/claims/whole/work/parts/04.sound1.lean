-- THE INTERPRETER IS TRUE OF THE MACHINE, first part: the stack, the locals, the branches
def iv_len (i : Instr) : Nat := match i with
  | .bipush _ | .ldc _ | .iload _ | .lload _ | .aload _ | .istore _ | .lstore _ | .astore _ | .newarray _ => 2
  | .sipush _ | .ldc_w _ | .ldc2_w _ | .iinc _ _ | .if_icmp _ _ | .ifCond _ _ | .ifnull _ | .ifnonnull _ | .goto _ | .getfield _ | .putfield _ | .getstatic _ | .new _ | .anewarray _ | .invokevirtual _ | .invokespecial _ | .invokestatic _ => 3
  | .multianewarray _ _ => 4
  | _ => 1
def iv_tr (ad : Nat → Nat) (v : Value) : Value := match v with
  | .ref q => .ref (ad q)
  | v => v
theorem iv_tr_cat (ad : Nat → Nat) (v : Value) : (iv_tr ad v).category = v.category := by cases v <;> rfl
theorem iv_tr_cats (ad : Nat → Nat) (l : List Value) : ((l.map (iv_tr ad)).map fun v => v.category) = l.map fun v => v.category := by
  rw [List.map_map]
  exact List.map_congr_left fun v _ => iv_tr_cat ad v
theorem iv_ii_ok {st st' : List Value} {f : Int32 → Int32 → Int32} (h : iv_ii st f = some st') : ∃ x y r, st = .int y :: .int x :: r ∧ st' = .int (f x y) :: r := by
  unfold iv_ii at h
  split at h
  · cases h; exact ⟨_, _, _, rfl, rfl⟩
  · cases h
theorem iv_id_ok {st st' : List Value} {f : Int32 → Int32 → Int32} (h : iv_id st f = some st') : ∃ x y r, st = .int y :: .int x :: r ∧ st' = .int (f x y) :: r ∧ ¬ y = 0 := by
  unfold iv_id at h
  split at h
  · split at h
    · cases h
    · next hy => cases h; exact ⟨_, _, _, rfl, rfl, hy⟩
  · cases h
theorem iv_jj_ok {st st' : List Value} {f : Int64 → Int64 → Int64} (h : iv_jj st f = some st') : ∃ x y r, st = .long y :: .long x :: r ∧ st' = .long (f x y) :: r := by
  unfold iv_jj at h
  split at h
  · cases h; exact ⟨_, _, _, rfl, rfl⟩
  · cases h
theorem iv_jd_ok {st st' : List Value} {f : Int64 → Int64 → Int64} (h : iv_jd st f = some st') : ∃ x y r, st = .long y :: .long x :: r ∧ st' = .long (f x y) :: r ∧ ¬ y = 0 := by
  unfold iv_jd at h
  split at h
  · split at h
    · cases h
    · next hy => cases h; exact ⟨_, _, _, rfl, rfl, hy⟩
  · cases h
theorem iv_js_ok {st st' : List Value} {f : Int64 → Int32 → Int64} (h : iv_js st f = some st') : ∃ x y r, st = .int y :: .long x :: r ∧ st' = .long (f x y) :: r := by
  unfold iv_js at h
  split at h
  · cases h; exact ⟨_, _, _, rfl, rfl⟩
  · cases h
theorem iv_i1_ok {st st' : List Value} {f : Int32 → Value} (h : iv_i1 st f = some st') : ∃ x r, st = .int x :: r ∧ st' = f x :: r := by
  unfold iv_i1 at h
  split at h
  · cases h; exact ⟨_, _, rfl, rfl⟩
  · cases h
/-- what a constant's instruction takes out of the tables -/
def iv_kok (own : String) (args : Array Value) (s : State) (ad : Nat → Nat) (i : Instr) (a b : Nat) (sw : List (Int × Nat)) : Prop := match i with
  | .ldc x => if b = 1 then ∃ tx, vk_R own x tx (ad a) s else ∀ q r, sw = q :: r → (Cond.constant own x (Int32.ofInt q.1)).before args s = true
  | .ldc_w x => if b = 1 then ∃ tx, vk_R own x tx (ad a) s else ∀ q r, sw = q :: r → (Cond.constant own x (Int32.ofInt q.1)).before args s = true
  | .ldc2_w x => ∀ q r, sw = q :: r → (Cond.constantLong own x (Int64.ofInt q.1)).before args s = true
  | _ => True
section IV1
variable {p : Program} {l : Launch} {e : Env} {R : Room} {s : State} {m : MethodId} {args : Array Value} {below : List Frame} {meth : Method} {c : Code} {H : Heap} {locs : List Loc} {cells slots : Nat} {Q : State → Prop}
variable {cc : ByteArray} {pc n : Nat} {ls : Array Slot}
/-- a text's constant by ldc_w -/
theorem iv_ldcwS {rest : List Value} (hx : p.tables.exec = Jvm.exec) (hb : c.code = cc) {own tx : String} {index q : Nat} (hown : s.vm.findClass own = some m.cls) (hZ : vk_R own index tx q s) (hdg : decode cc pc = .ok (.ldc_w index, 3))
    (k : W p l e R s m args below meth c H locs cells slots Q (F0 m (pc + 3) ls (.ref q :: rest))) : W p l e R s m args below meth c H locs cells slots Q (F0 m pc ls rest) := by
  intro T hT X
  obtain ⟨t, a1, b1⟩ := k T hT X
  refine ⟨t, ?_, b1⟩
  obtain ⟨kc, cf, i, a', hk, hcf, hcp, -, hr, hev'⟩ := Cond.stringRef_spec (args := #[]) hown hZ.1
  cases hZ.2.symm.trans hev'
  obtain ⟨k', hk', he⟩ := X.warmed.alike.2.2 _ _ hk
  have hr' : k'.resolved[index]? = some (some (.string q)) := by
    rcases X.warmed.entry hk hk' index with h | ⟨h, -⟩
    · rw [h]; exact hr
    · rw [hr] at h; cases h
  have hdg' : decode c.code (F0 m pc ls rest).pc = .ok (.ldc_w index, 3) := by rw [hb]; exact hdg
  have hkm : T.vm.classes[(F0 m pc ls rest).method.cls]? = some k' := hk'
  jvm_step X.here [hx, hdg', ldc_w.wp_string (e := e) (s := T) (f := F0 m pc ls rest) X.here.top hkm (by rw [he]; exact hcf) hcp hr']
  exact a1
set_option maxHeartbeats 4000000 in
theorem iv_pur_ok {own : String} {ad : Nat → Nat} {i : Instr} {a b : Nat} {sw : List (Int × Nat)} {st st' : List Value} (hx : p.tables.exec = Jvm.exec) (hb : c.code = cc) (hown : s.vm.findClass own = some m.cls) (hd : decode cc pc = .ok (i, n)) (hn : n = iv_len i) (hk : iv_kok own args s ad i a b sw)
    (h : iv_pur i a b sw st = some st') (k : W p l e R s m args below meth c H locs cells slots Q (F0 m (pc + n) ls (st'.map (iv_tr ad)))) : W p l e R s m args below meth c H locs cells slots Q (F0 m pc ls (st.map (iv_tr ad))) := by
  unfold iv_pur at h
  subst hn
  cases i <;> dsimp only at h <;> (first | (cases h; done) | skip)
  case iconst v => cases h; exact lv_iconst hx hb hd rfl k
  case bipush v => cases h; exact lv_bipush hx hb hd rfl k
  case sipush v => cases h; exact lv_sipush hx hb hd rfl k
  case lconst v => cases h; exact lv_lconst hx hb hd rfl k
  case aconst_null => cases h; exact lv_null hx hb hd k
  case iadd => obtain ⟨x, y, r, rfl, rfl⟩ := iv_ii_ok h; exact lv_iadd hx hb hd k
  case isub => obtain ⟨x, y, r, rfl, rfl⟩ := iv_ii_ok h; exact lv_isub hx hb hd k
  case imul => obtain ⟨x, y, r, rfl, rfl⟩ := iv_ii_ok h; exact lv_imul hx hb hd k
  case idiv => obtain ⟨x, y, r, rfl, rfl, h0⟩ := iv_id_ok h; exact lv_idiv hx hb hd h0 k
  case irem => obtain ⟨x, y, r, rfl, rfl, h0⟩ := iv_id_ok h; exact lv_irem hx hb hd h0 k
  case iand => obtain ⟨x, y, r, rfl, rfl⟩ := iv_ii_ok h; exact lv_iand hx hb hd k
  case ior => obtain ⟨x, y, r, rfl, rfl⟩ := iv_ii_ok h; exact lv_ior hx hb hd k
  case ixor => obtain ⟨x, y, r, rfl, rfl⟩ := iv_ii_ok h; exact lv_ixor hx hb hd k
  case ishl => obtain ⟨x, y, r, rfl, rfl⟩ := iv_ii_ok h; exact lv_ishl hx hb hd k
  case ishr => obtain ⟨x, y, r, rfl, rfl⟩ := iv_ii_ok h; exact lv_ishr hx hb hd k
  case iushr => obtain ⟨x, y, r, rfl, rfl⟩ := iv_ii_ok h; exact lv_iushr hx hb hd rfl k
  case ladd => obtain ⟨x, y, r, rfl, rfl⟩ := iv_jj_ok h; exact lv_ladd hx hb hd k
  case lsub => obtain ⟨x, y, r, rfl, rfl⟩ := iv_jj_ok h; exact lv_lsub hx hb hd k
  case lmul => obtain ⟨x, y, r, rfl, rfl⟩ := iv_jj_ok h; exact lv_lmul hx hb hd k
  case ldiv => obtain ⟨x, y, r, rfl, rfl, h0⟩ := iv_jd_ok h; exact lv_ldiv hx hb hd h0 k
  case lrem => obtain ⟨x, y, r, rfl, rfl, h0⟩ := iv_jd_ok h; exact lv_lrem hx hb hd h0 k
  case land => obtain ⟨x, y, r, rfl, rfl⟩ := iv_jj_ok h; exact lv_land hx hb hd k
  case lor => obtain ⟨x, y, r, rfl, rfl⟩ := iv_jj_ok h; exact lv_lor hx hb hd k
  case lxor => obtain ⟨x, y, r, rfl, rfl⟩ := iv_jj_ok h; exact lv_lxor hx hb hd k
  case lshl => obtain ⟨x, y, r, rfl, rfl⟩ := iv_js_ok h; exact lv_lshl hx hb hd rfl k
  case lshr => obtain ⟨x, y, r, rfl, rfl⟩ := iv_js_ok h; exact lv_lshr hx hb hd rfl k
  case lushr => obtain ⟨x, y, r, rfl, rfl⟩ := iv_js_ok h; exact lv_lushr hx hb hd rfl k
  case i2l => obtain ⟨x, r, rfl, rfl⟩ := iv_i1_ok h; exact lv_i2l hx hb hd rfl k
  case i2b => obtain ⟨x, r, rfl, rfl⟩ := iv_i1_ok h; exact lv_i2b hx hb hd rfl k
  case i2c => obtain ⟨x, r, rfl, rfl⟩ := iv_i1_ok h; exact lv_i2c hx hb hd rfl k
  case l2i =>
    unfold iv_l2i at h
    split at h
    · cases h; exact lv_l2i hx hb hd rfl k
    · cases h
  case lcmp =>
    unfold iv_lcm at h
    split at h
    · cases h; exact W.lcmp hx hb hd k
    · cases h
  case dup =>
    unfold iv_dup at h
    split at h
    · split at h
      · next hc => cases h; exact lv_dup hx hb hd ((iv_tr_cat ad _).trans hc) k
      · cases h
    · cases h
  case dup2 =>
    unfold iv_dup2 at h
    split at h
    · split at h
      · next hc => cases h; exact lv_dup2_11 hx hb hd ((iv_tr_cat ad _).trans hc.1) ((iv_tr_cat ad _).trans hc.2) k
      · cases h
    · cases h
  case dup_x1 =>
    unfold iv_dupx at h
    split at h
    · split at h
      · next hc => cases h; exact lv_dup_x1 hx hb hd ((iv_tr_cat ad _).trans hc.1) ((iv_tr_cat ad _).trans hc.2) k
      · cases h
    · cases h
  case pop =>
    unfold iv_pp at h
    split at h
    · split at h
      · next hc => cases h; exact lv_pop hx hb hd ((iv_tr_cat ad _).trans hc) k
      · cases h
    · cases h
  case ldc x =>
    unfold iv_kI at h
    unfold iv_kok at hk
    split at h
    · next hb1 =>
      cases h
      dsimp only at hk
      rw [if_pos hb1] at hk
      obtain ⟨tx, hk⟩ := hk
      exact va_ldcS hx hb hown hk hd k
    · next hb1 =>
      dsimp only at hk
      rw [if_neg hb1] at hk
      split at h
      · cases h; exact lv_ldc hx hb hown (hk _ _ rfl) hd k
      · cases h
  case ldc_w x =>
    unfold iv_kI at h
    unfold iv_kok at hk
    split at h
    · next hb1 =>
      cases h
      dsimp only at hk
      rw [if_pos hb1] at hk
      obtain ⟨tx, hk⟩ := hk
      exact iv_ldcwS hx hb hown hk hd k
    · next hb1 =>
      dsimp only at hk
      rw [if_neg hb1] at hk
      split at h
      · cases h; exact lv_ldcw hx hb hown (hk _ _ rfl) hd k
      · cases h
  case ldc2_w x =>
    unfold iv_kJ at h
    split at h
    · cases h; exact lv_ldc2 hx hb hown (hk _ _ rfl) hd k
    · cases h
/-- the locals: what the interpreter holds stands in the machine's -/
def iv_Ls (ad : Nat → Nat) (nL : Nat) (ls : Array Slot) (L : iv_L) : Prop := L.length = nL ∧ ls.size = nL ∧ lv_wf ls ∧ ∀ (j : Nat) (v : Value), L[j]? = some (some v) → ls[j]? = some (.val (iv_tr ad v))
def iv_lv (ad : Nat → Nat) (L : iv_L) : List (Nat × Value) := (List.range L.length).filterMap fun j => match L[j]? with
  | some (some v) => some (j, iv_tr ad v)
  | _ => none
theorem iv_lv_in {ad : Nat → Nat} {L : iv_L} {q : Nat × Value} : q ∈ iv_lv ad L ↔ ∃ v, L[q.1]? = some (some v) ∧ q.2 = iv_tr ad v := by
  unfold iv_lv
  rw [List.mem_filterMap]
  constructor
  · rintro ⟨j, -, h⟩
    split at h
    · next v hv => cases h; exact ⟨v, hv, rfl⟩
    · cases h
  · rintro ⟨v, h1, h2⟩
    have hl : q.1 < L.length := (List.getElem?_eq_some_iff.mp h1).1
    refine ⟨q.1, List.mem_range.mpr hl, ?_⟩
    rw [h1]
    dsimp only
    rw [← h2]
theorem iv_Ls.has {ad : Nat → Nat} {nL : Nat} {L : iv_L} (h : iv_Ls ad nL ls L) : lv_has ls nL (iv_lv ad L) := ⟨h.2.1, h.2.2.1, fun q hq => by
  obtain ⟨v, h1, h2⟩ := iv_lv_in.mp hq
  rw [h2]
  exact h.2.2.2 _ _ h1⟩
theorem iv_clr_len (L : iv_L) (k : Nat) : (iv_clr L k).length = L.length := by
  unfold iv_clr
  split
  · rfl
  · split
    · split <;> simp
    · rfl
theorem iv_clr_at {L : iv_L} {k j : Nat} {v : Value} (h : (iv_clr L k)[j]? = some (some v)) : L[j]? = some (some v) ∧ ¬ (j + 1 = k ∧ v.category = 2) := by
  unfold iv_clr at h
  split at h
  · exact ⟨h, fun q => by omega⟩
  · next i =>
    split at h
    · next w hw =>
      split at h
      · next hc =>
        by_cases e : j = i
        · subst e
          rw [List.getElem?_set_self (List.getElem?_eq_some_iff.mp hw).1] at h
          cases h
        · rw [List.getElem?_set_ne (Ne.symm e)] at h
          exact ⟨h, fun q => by omega⟩
      · next hc =>
        refine ⟨h, fun q => ?_⟩
        have e : j = i := by omega
        subst e
        rw [hw] at h
        cases h
        exact hc q.2
    · next hno =>
      refine ⟨h, fun q => ?_⟩
      have e : j = i := by omega
      subst e
      exact hno v h
theorem iv_s1_ok {ad : Nat → Nat} {nL k : Nat} {L : iv_L} {ls' : Array Slot} {v : Value} (h0 : iv_Ls ad nL ls L) (h : lv_has ls' nL ((k, iv_tr ad v) :: (iv_lv ad L).filter (fun q => !(q.1 == k) && !(q.1 + 1 == k && q.2.category == 2)))) : iv_Ls ad nL ls' (iv_s1 L k v) := by
  refine ⟨by unfold iv_s1; rw [List.length_set, iv_clr_len]; exact h0.1, h.1, h.2.1, fun j w hw => ?_⟩
  unfold iv_s1 at hw
  by_cases e : j = k
  · subst e
    have hl : j < (iv_clr L j).length := by
      have := (List.getElem?_eq_some_iff.mp hw).1
      rwa [List.length_set] at this
    rw [List.getElem?_set_self hl] at hw
    cases hw
    exact h.2.2 _ List.mem_cons_self
  · rw [List.getElem?_set_ne (Ne.symm e)] at hw
    obtain ⟨h1, h2⟩ := iv_clr_at hw
    refine h.2.2 (j, iv_tr ad w) (List.mem_cons_of_mem _ (List.mem_filter.mpr ⟨iv_lv_in.mpr ⟨w, h1, rfl⟩, ?_⟩))
    have h3 : ¬ (j + 1 = k ∧ (iv_tr ad w).category = 2) := by rw [iv_tr_cat]; exact h2
    simp only [Bool.and_eq_true, Bool.not_eq_true', beq_eq_false_iff_ne, Bool.and_eq_false_imp, beq_iff_eq]
    exact ⟨e, fun q => fun z => h3 ⟨q, z⟩⟩
theorem iv_s2_ok {ad : Nat → Nat} {nL k : Nat} {L : iv_L} {ls' : Array Slot} {v : Value} (h0 : iv_Ls ad nL ls L) (h : lv_has ls' nL ((k, iv_tr ad v) :: (iv_lv ad L).filter (fun q => !(q.1 == k) && (!(q.1 == k + 1) && !(q.1 + 1 == k && q.2.category == 2))))) : iv_Ls ad nL ls' (iv_s2 L k v) := by
  refine ⟨by unfold iv_s2; rw [List.length_set, List.length_set, iv_clr_len]; exact h0.1, h.1, h.2.1, fun j w hw => ?_⟩
  unfold iv_s2 at hw
  have hj : j ≠ k + 1 := by
    intro e
    subst e
    have hl := (List.getElem?_eq_some_iff.mp hw).1
    rw [List.length_set] at hl
    rw [List.getElem?_set_self hl] at hw
    cases hw
  rw [List.getElem?_set_ne (Ne.symm hj)] at hw
  by_cases e : j = k
  · subst e
    have hl : j < (iv_clr L j).length := by
      have := (List.getElem?_eq_some_iff.mp hw).1
      rwa [List.length_set] at this
    rw [List.getElem?_set_self hl] at hw
    cases hw
    exact h.2.2 _ List.mem_cons_self
  · rw [List.getElem?_set_ne (Ne.symm e)] at hw
    obtain ⟨h1, h2⟩ := iv_clr_at hw
    refine h.2.2 (j, iv_tr ad w) (List.mem_cons_of_mem _ (List.mem_filter.mpr ⟨iv_lv_in.mpr ⟨w, h1, rfl⟩, ?_⟩))
    have h3 : ¬ (j + 1 = k ∧ (iv_tr ad w).category = 2) := by rw [iv_tr_cat]; exact h2
    simp only [Bool.and_eq_true, Bool.not_eq_true', beq_eq_false_iff_ne, Bool.and_eq_false_imp, beq_iff_eq]
    exact ⟨e, hj, fun q => fun z => h3 ⟨q, z⟩⟩
theorem iv_ldI_ok {L L' : iv_L} {k : Nat} {st st' : List Value} (h : iv_ldI L k st = some (L', st')) : ∃ x, L[k]? = some (some (.int x)) ∧ L' = L ∧ st' = .int x :: st := by
  unfold iv_ldI at h
  split at h
  · next x hx => cases h; exact ⟨x, hx, rfl, rfl⟩
  · cases h
theorem iv_ldJ_ok {L L' : iv_L} {k : Nat} {st st' : List Value} (h : iv_ldJ L k st = some (L', st')) : ∃ x, L[k]? = some (some (.long x)) ∧ L' = L ∧ st' = .long x :: st := by
  unfold iv_ldJ at h
  split at h
  · next x hx => cases h; exact ⟨x, hx, rfl, rfl⟩
  · cases h
theorem iv_ldA_ok {L L' : iv_L} {k : Nat} {st st' : List Value} (h : iv_ldA L k st = some (L', st')) : L' = L ∧ ((∃ x, L[k]? = some (some (.ref x)) ∧ st' = .ref x :: st) ∨ (L[k]? = some (some .null) ∧ st' = .null :: st)) := by
  unfold iv_ldA at h
  split at h
  · next x hx => cases h; exact ⟨rfl, Or.inl ⟨x, hx, rfl⟩⟩
  · next hx => cases h; exact ⟨rfl, Or.inr ⟨hx, rfl⟩⟩
  · cases h
theorem iv_stI_ok {L L' : iv_L} {k : Nat} {st st' : List Value} (h : iv_stI L k st = some (L', st')) : ∃ x, st = .int x :: st' ∧ k < L.length ∧ L' = iv_s1 L k (.int x) := by
  unfold iv_stI at h
  split at h
  · split at h
    · next hl => cases h; exact ⟨_, rfl, hl, rfl⟩
    · cases h
  · cases h
theorem iv_stJ_ok {L L' : iv_L} {k : Nat} {st st' : List Value} (h : iv_stJ L k st = some (L', st')) : ∃ x, st = .long x :: st' ∧ k + 1 < L.length ∧ L' = iv_s2 L k (.long x) := by
  unfold iv_stJ at h
  split at h
  · split at h
    · next hl => cases h; exact ⟨_, rfl, hl, rfl⟩
    · cases h
  · cases h
theorem iv_stA_ok {L L' : iv_L} {k : Nat} {st st' : List Value} (h : iv_stA L k st = some (L', st')) : k < L.length ∧ ((∃ x, st = .ref x :: st' ∧ L' = iv_s1 L k (.ref x)) ∨ (st = .null :: st' ∧ L' = iv_s1 L k .null)) := by
  unfold iv_stA at h
  split at h
  · split at h
    · next hl => cases h; exact ⟨hl, Or.inl ⟨_, rfl, rfl⟩⟩
    · cases h
  · split at h
    · next hl => cases h; exact ⟨hl, Or.inr ⟨rfl, rfl⟩⟩
    · cases h
  · cases h
set_option maxHeartbeats 4000000 in
theorem iv_loc_ok {ad : Nat → Nat} {nL : Nat} {i : Instr} {L L' : iv_L} {st st' : List Value} (hx : p.tables.exec = Jvm.exec) (hb : c.code = cc) (hd : decode cc pc = .ok (i, n)) (hn : n = iv_len i) (hl : iv_Ls ad nL ls L)
    (h : iv_loc i L st = some (L', st')) (k : ∀ ls' : Array Slot, iv_Ls ad nL ls' L' → W p l e R s m args below meth c H locs cells slots Q (F0 m (pc + n) ls' (st'.map (iv_tr ad)))) : W p l e R s m args below meth c H locs cells slots Q (F0 m pc ls (st.map (iv_tr ad))) := by
  unfold iv_loc at h
  subst hn
  have hh := hl.has
  have hle := hl.1
  cases i <;> dsimp only at h <;> (first | (cases h; done) | skip)
  case iload j => obtain ⟨x, h1, rfl, rfl⟩ := iv_ldI_ok h; exact lv_iload hx hb hd (hl.2.2.2 _ _ h1) (k ls hl)
  case iload_n j => obtain ⟨x, h1, rfl, rfl⟩ := iv_ldI_ok h; exact lv_iload_n hx hb hd rfl (hl.2.2.2 _ _ h1) (k ls hl)
  case lload j => obtain ⟨x, h1, rfl, rfl⟩ := iv_ldJ_ok h; exact lv_lload hx hb hd (hl.2.2.2 _ _ h1) (k ls hl)
  case lload_n j => obtain ⟨x, h1, rfl, rfl⟩ := iv_ldJ_ok h; exact lv_lload_n hx hb hd rfl (hl.2.2.2 _ _ h1) (k ls hl)
  case aload j =>
    obtain ⟨rfl, ⟨x, h1, rfl⟩ | ⟨h1, rfl⟩⟩ := iv_ldA_ok h
    · exact lv_aload hx hb hd (hl.2.2.2 _ _ h1) (k ls hl)
    · exact lv_aloadN hx hb hd (hl.2.2.2 _ _ h1) (k ls hl)
  case aload_n j =>
    obtain ⟨rfl, ⟨x, h1, rfl⟩ | ⟨h1, rfl⟩⟩ := iv_ldA_ok h
    · exact lv_aload_n hx hb hd rfl (hl.2.2.2 _ _ h1) (k ls hl)
    · exact lv_aload_nN hx hb hd rfl (hl.2.2.2 _ _ h1) (k ls hl)
  case istore j =>
    obtain ⟨x, rfl, h1, rfl⟩ := iv_stI_ok h
    exact lv_istore hx hb hd hh (by omega) rfl (fun ls' h' => k ls' (iv_s1_ok (v := .int x) hl h'))
  case istore_n j =>
    obtain ⟨x, rfl, h1, rfl⟩ := iv_stI_ok h
    exact lv_istore_n hx hb hd rfl hh (by omega) rfl (fun ls' h' => k ls' (iv_s1_ok (v := .int x) hl h'))
  case lstore j =>
    obtain ⟨x, rfl, h1, rfl⟩ := iv_stJ_ok h
    exact lv_lstore hx hb hd hh (by omega) rfl (fun ls' h' => k ls' (iv_s2_ok (v := .long x) hl h'))
  case lstore_n j =>
    obtain ⟨x, rfl, h1, rfl⟩ := iv_stJ_ok h
    exact lv_lstore_n hx hb hd rfl hh (by omega) rfl (fun ls' h' => k ls' (iv_s2_ok (v := .long x) hl h'))
  case astore j =>
    obtain ⟨h1, ⟨x, rfl, rfl⟩ | ⟨rfl, rfl⟩⟩ := iv_stA_ok h
    · exact lv_astore hx hb hd hh (by omega) rfl (fun ls' h' => k ls' (iv_s1_ok (v := .ref x) hl h'))
    · exact lv_astoreN hx hb hd hh (by omega) rfl (fun ls' h' => k ls' (iv_s1_ok (v := .null) hl h'))
  case astore_n j =>
    obtain ⟨h1, ⟨x, rfl, rfl⟩ | ⟨rfl, rfl⟩⟩ := iv_stA_ok h
    · exact lv_astore_n hx hb hd rfl hh (by omega) rfl (fun ls' h' => k ls' (iv_s1_ok (v := .ref x) hl h'))
    · exact lv_astore_nN hx hb hd rfl hh (by omega) rfl (fun ls' h' => k ls' (iv_s1_ok (v := .null) hl h'))
  case iinc j v =>
    unfold iv_inc at h
    split at h
    · next x h1 =>
      cases h
      have hj : j < nL := by rw [← hle]; exact (List.getElem?_eq_some_iff.mp h1).1
      obtain ⟨q, hq⟩ := List.getElem?_of_mem (iv_lv_in (ad := ad) (q := (j, .int x)).mpr ⟨_, h1, rfl⟩)
      exact lv_iinc hx hb hd hh hq rfl hj rfl (fun ls' h' => k ls' (iv_s1_ok (v := .int (x + Int32.ofInt v)) hl h'))
    · cases h
set_option maxHeartbeats 4000000 in
theorem iv_br_ok {ad : Nat → Nat} {i : Instr} {a : Nat} {g : Bool} {st st' : List Value} (hx : p.tables.exec = Jvm.exec) (hb : c.code = cc) (hd : decode cc pc = .ok (i, n)) (hn : n = iv_len i) (ht : ∀ off, (i = .ifnull off ∨ i = .ifnonnull off ∨ (∃ q, i = .if_icmp q off) ∨ ∃ q, i = .ifCond q off) → (pc : Int) + off = (a : Int))
    (h : iv_br i st = some (g, st')) (k1 : g = true → W p l e R s m args below meth c H locs cells slots Q (F0 m a ls (st'.map (iv_tr ad)))) (k2 : g = false → W p l e R s m args below meth c H locs cells slots Q (F0 m (pc + n) ls (st'.map (iv_tr ad)))) : W p l e R s m args below meth c H locs cells slots Q (F0 m pc ls (st.map (iv_tr ad))) := by
  unfold iv_br at h
  subst hn
  cases i <;> dsimp only at h <;> (first | (cases h; done) | skip)
  case if_icmp q off =>
    split at h
    · cases h
      have hto := ht off (Or.inr (Or.inr (Or.inl ⟨_, rfl⟩)))
      cases q
      · exact lv_icmp_eq hx hb hd hto (fun z => k1 (decide_eq_true z)) (fun z => k2 (decide_eq_false z))
      · exact lv_icmp_ne hx hb hd hto (fun z => k1 (decide_eq_true z)) (fun z => k2 (decide_eq_false (fun y => y z)))
      · exact lv_icmp_lt hx hb hd hto (fun z => k1 (decide_eq_true z)) (fun z => k2 (decide_eq_false z))
      · exact lv_icmp_ge hx hb hd hto (fun z => k1 (decide_eq_true z)) (fun z => k2 (decide_eq_false z))
      · exact lv_icmp_gt hx hb hd hto (fun z => k1 (decide_eq_true z)) (fun z => k2 (decide_eq_false z))
      · exact lv_icmp_le hx hb hd hto (fun z => k1 (decide_eq_true z)) (fun z => k2 (decide_eq_false z))
    · cases h
  case ifCond q off =>
    split at h
    · cases h
      have hto := ht off (Or.inr (Or.inr (Or.inr ⟨_, rfl⟩)))
      cases q
      · exact lv_if_eq hx hb hd hto (fun z => k1 (decide_eq_true z)) (fun z => k2 (decide_eq_false z))
      · exact lv_if_ne hx hb hd hto (fun z => k1 (decide_eq_true z)) (fun z => k2 (decide_eq_false (fun y => y z)))
      · exact lv_if_lt hx hb hd hto (fun z => k1 (decide_eq_true z)) (fun z => k2 (decide_eq_false z))
      · exact lv_if_ge hx hb hd hto (fun z => k1 (decide_eq_true z)) (fun z => k2 (decide_eq_false z))
      · exact lv_if_gt hx hb hd hto (fun z => k1 (decide_eq_true z)) (fun z => k2 (decide_eq_false z))
      · exact lv_if_le hx hb hd hto (fun z => k1 (decide_eq_true z)) (fun z => k2 (decide_eq_false z))
    · cases h
  case ifnull off =>
    have hto := ht off (Or.inl rfl)
    split at h
    · cases h; exact lv_ifnullN hx hb hd hto (k1 rfl)
    · cases h; exact lv_ifnull hx hb hd (k2 rfl)
    · cases h
  case ifnonnull off =>
    have hto := ht off (Or.inr (Or.inl rfl))
    split at h
    · cases h; exact lv_ifnonnullN hx hb hd (k2 rfl)
    · cases h; exact lv_ifnonnull hx hb hd hto (k1 rfl)
    · cases h
end IV1
