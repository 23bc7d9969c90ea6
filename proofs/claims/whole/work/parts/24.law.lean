/-! the rows around whole_start are the skeleton's -/
def R_law : String := "WalkingRoomsLaw"
def lw_P (b : Addr) (xs : List Int32) (args : Array Value) (s : State) : Prop := args = #[.ref b] ∧ s.IntsAt b xs ∧ xs.length ≤ 3072 ∧ (Jvm.Cond.and given_1 narrow_1).before args s = true
def lw_Q (_ : Array Value) (s : State) (o : Outcome) (t : State) : Prop := o = .returned (some (.int 1)) ∧ Framed s o t [] room_1.cells room_1.slots
def lw_Z (below : List Frame) (a : Array Value) (s : State) : State → Prop := fun t => ∃ o, t.status = .running ∧ Ended t below o ∧ lw_Q a s o t
/-- the law's own end, with 1 on the stack, nothing written that was there before, its room as the claim has it -/
theorem lw_ret {p : Program} {l : Launch} {e : Env} {s : State} {m : MethodId} {below : List Frame} {meth : Method} {c : Code} {b : Nat} (hx : p.tables.exec = Jvm.exec) (hb : c.code = code) (hr : meth.sig.returnType = ret) (hlocks : meth.locks = false) {pc : Nat} {H : Heap} {ls : Array Slot} (hdg : decode code pc = .ok (.ireturn, 1)) : W p l e room_1 s m #[Value.ref b] below meth c H [] room_1.cells room_1.slots (lw_Z below #[Value.ref b] s) (F0 m pc ls [.int 1]) := by
  intro T hT X
  obtain ⟨fs, hret, hrun, hended, hW, hframe⟩ := X.leave (v := some (.int 1)) (hlocks := hlocks) (fun h => by rw [hr] at h; cases h)
  have hmeth' : T.vm.method? m = some meth := X.method'
  refine ⟨T.setFrames fs, ?_, .returned (some (.int 1)), hrun, hended, rfl, ⟨_, rfl⟩, hW, hframe⟩
  jvm_step X.here [X.here.top, hx, hb, hdg, hmeth', hr, ret, narrow_b1]
  (try refine ⟨rfl, ?_⟩); (try refine ⟨rfl, ?_⟩)
  first | (intro acts; rw [hret _ acts rfl rfl rfl]) | rw [hret _ _ rfl rfl rfl]
  exact Steps.refl _
/-- what holds at the law's entry: the machine, the code, the tables' words (any of lw_tbl by 'hts w (by decide +kernel)'), the script of L ints xs at the cell b, what the Statement gives of the start (any of its parts by flat_of_before) -/
def lw_At (p : Program) (s : State) (m : MethodId) (meth : Method) (c : Code) (b L : Nat) (xs : Nat → Int32) : Prop :=
  p.tables.exec = Jvm.exec ∧ c.code = code ∧ meth.sig.returnType = ret ∧ c.maxLocals = 4 ∧ s.vm.findClass R_law = some m.cls ∧ (∀ w ∈ lw_tbl, w.before #[Value.ref b] s = true) ∧ va_X b L xs s s.heap ∧ b < s.heap.size ∧ meth.locks = false ∧ (Jvm.Cond.and given_1 narrow_1).before #[Value.ref b] s = true
/-- WHAT IS LEFT: the interpreter runs the law on every script, and it answers 1 -/
def iv_Claim : Prop := ∀ (L : Nat) (xs : Nat → Int32), L ≤ 3072 → ∃ (d F : Nat) (h' : iv_H), d ≤ 1000 ∧ h'.1 ≤ 1000 ∧ h'.2.1 ≤ 2000000 ∧ iv_ex PG iv_df (iv_run PG iv_df d F) 351 (some .boolean) F 0 (iv_ent 4 [.ref iv_big]) [] (0, 0, iv_X L xs) = some (some (.int 1), h')
theorem iv_rok_mn {P : iv_Pg} {df : Nat → List Value} {tx : List (String × Nat × String × Nat)} {own mn mn' : String} {cc : ByteArray} {pc : Nat} {f : iv_F} (h : iv_rok P df tx own mn cc pc f) (hn : ∀ x, f.1 ≠ .putfield x) : iv_rok P df tx own mn' cc pc f := by
  obtain ⟨n, h1, h2, h3, h4, h5, h6⟩ := h
  refine ⟨n, h1, h2, h3, h4, ?_, h6⟩
  obtain ⟨i, nx, a, b, sw⟩ := f
  dsimp only at h5 hn ⊢
  cases i
  case putfield x => exact absurd rfl (hn x)
  all_goals exact h5
def iv_npf (i : Instr) : Bool := match i with
  | .putfield _ => false
  | _ => true
set_option maxRecDepth 100000 in
theorem iv_law_npf : tL_law.all (fun r => iv_npf r.2.1) = true := by decide +kernel
set_option maxRecDepth 100000 in
theorem iv_law_at : iv_Z[351]? = some (mL_law, tL_law) := rfl
theorem iv_law_rows {mn : String} : ∀ pc f, PG.1 351 pc = some f → iv_rok PG iv_df iv_tx R_law mn code pc f := by
  intro pc f hf
  have hP : PG.2 351 = some mL_law := by
    unfold PG
    dsimp only
    rw [if_neg (by decide), if_neg (by decide), iv_law_at]
    rfl
  have h := (iv_PG_ok 351 _ _ _ _ _ hP (by decide) (by decide)).2 pc f hf
  refine iv_rok_mn (mn := "law") h (fun x hx => ?_)
  unfold PG at hf
  dsimp only at hf
  rw [iv_law_at, Option.bind_some] at hf
  have := List.all_eq_true.mp iv_law_npf _ (iv_lk_in hf)
  dsimp only at this
  rw [hx] at this
  cases this
/-- the room that is wanted, whatever room the statement names above it -/
theorem iv_room : 1000 ≤ room_1.cells ∧ 2000000 ≤ room_1.slots ∧ 1001 ≤ room_1.frames ∧ 64064 ≤ room_1.locals := ⟨Nat.le_of_ble_eq_true rfl, Nat.le_of_ble_eq_true rfl, Nat.le_of_ble_eq_true rfl, Nat.le_of_ble_eq_true rfl⟩
set_option maxHeartbeats 4000000 in
/-- the law's walk, out of a run of the interpreter -/
theorem whole_start_open (hcl : iv_Claim) (hstr : ∀ l D S0 ex tc L xs, iv_StrOk l PG D S0 ex tc (iv_X L xs) iv_tx)
    (hmul : ∀ l D S0 ex tc L xs, ∀ p e R s m args below meth c Q cc own, p.tables.exec = Jvm.exec → c.code = cc → s.vm.findClass own = some m.cls → (∀ w ∈ lw_g, w.before args s = true) → va_K D vwCl (iv_tys tc) s → iv_E S0 ex (iv_X L xs) iv_tx s → iv_MulOk p l e R s m args below meth c Q cc own lw_g D S0 ex tc (iv_X L xs))
    {p : Program} {e : Env} {s : State} {m : MethodId} {below : List Frame} {meth : Method} {c : Code} (l : Launch) {b L : Nat} {xs : Nat → Int32} (hL : L ≤ 3072) (C0 : lw_At p s m meth c b L xs) : W p l e room_1 s m #[Value.ref b] below meth c s.heap [] 0 0 (lw_Z below #[Value.ref b] s) (entryFrame m ([Value.ref b] : List Value).toArray 4) := by
  obtain ⟨hx, hb, hr, hml, hown, hts, hX, hbl, hlocks, hgv⟩ := C0
  have hg : ∀ w ∈ lw_g, w.before #[Value.ref b] s = true := fun w hw => hts w (List.mem_filter.mp hw).1
  obtain ⟨D, tc, hK⟩ := iv_classes hts
  obtain ⟨ex, hex, hE⟩ := iv_outside hgv hts hX (by omega)
  obtain ⟨d, F, h', hd, hc', hs', hrun⟩ := hcl L xs hL
  have hadb : iv_ad s.heap.size ex iv_big = b := by rw [iv_ad_ex (Nat.le_refl _)]; exact hex
  have hW : iv_Wo D s.heap.size ex tc (iv_X L xs) (0, 0, iv_X L xs) s.heap := ⟨rfl, Nat.zero_le _, (fun k q hq => absurd hq (by simp [iv_ws])), fun _ _ => rfl⟩
  obtain ⟨hle, hent⟩ := iv_ent_ok (ad := iv_ad s.heap.size ex) (n := 4) (vs := [.ref iv_big]) rfl
  have hl := hent _ (lv_entry _ hle)
  rw [lg_entry_eq]
  have e1 : ([Value.ref iv_big].map (iv_tr (iv_ad s.heap.size ex))) = [Value.ref b] := by
    show [Value.ref (iv_ad s.heap.size ex iv_big)] = _
    rw [hadb]
  rw [e1] at hl
  generalize (lg_sl [Value.ref b] ++ List.replicate (4 - (lg_sl [Value.ref b]).length) Slot.unset).toArray = ls at hl ⊢
  obtain ⟨r1, r2, r3, r4⟩ := iv_room
  refine iv_ex_ok (Q := lw_Z below #[Value.ref b] s) (R := room_1) (k0 := 0) (hf := h') (rt := some .boolean) (mn := meth.name) (own := R_law) hx hb hown hg hml hK hE rfl (Nat.le_refl _) iv_X_no ?_ ?_ ?_ ?_ (hmul _ _ _ _ _ _ _ _ _ _ _ _ _ _ _ _ _ _ _ hx hb hown hg hK hE) (fun a vs h r h' hz => iv_run_ok iv_PG_ok iv_X_no (hstr _ _ _ _ _ _ _) (hmul _ _ _ _ _ _ _) d F a vs h r h' hz) iv_law_rows ?_ F 0 _ [] (0, 0, iv_X L xs) s.heap [] 0 0 ls hrun hl hW va_S.rf rfl rfl
  · show s.heap.size + h'.1 ≤ s.heap.size + room_1.cells; omega
  · show h'.2.1 ≤ 0 + room_1.slots; omega
  · show d + 1 ≤ room_1.frames; omega
  · show 64 * d + 64 ≤ room_1.locals; omega
  · intro pc n1 i st h1 H locs cells slots ls1 hd1 hn1 hrt hW1 hS1 hC1 hZ1
    have e2 := iv_ret_h hrt
    subst e2
    subst hn1
    refine va_forget (fun q hq => hS1.2.2 q hq) ?_
    refine W.widen (k := room_1.cells) (n := room_1.slots) (by omega) (by omega) ?_
    unfold iv_ret at hrt
    cases i <;> dsimp only at hrt <;> (first | (cases hrt; done) | skip)
    case ireturn =>
      split at hrt
      · next heq => cases heq
      · split at hrt
        · cases hrt
          exact lw_ret hx hb hr hlocks hd1
        · cases hrt
      · cases hrt
    all_goals (split at hrt <;> first | (cases hrt; done) | (next heq => cases heq; done) | skip)
