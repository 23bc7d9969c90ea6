-- THE INTERPRETER IS TRUE OF THE MACHINE, seventh part: a method's body, and every run
theorem iv_str_at {a : Nat} {vs : List Value} {h h' : iv_H} {r : Option Value} (hh : iv_str a vs h = some (r, h')) : ∃ q r', vs = .ref q :: r' ∧ iv_big ≤ q ∧ ∃ n f, h.2.2 q = .inl (9, n, .inl f) := by
  unfold iv_str at hh
  split at hh
  · next q r' =>
    split at hh
    · next hq =>
      split at hh
      · next n f hg => exact ⟨q, r', rfl, hq, n, f, hg⟩
      · cases hh
    · cases hh
  · cases hh
theorem iv_run_str {P : iv_Pg} {df : Nat → List Value} {d F a : Nat} {vs : List Value} {h h' : iv_H} {r : Option Value} (hh : iv_run P df d F a vs h = some (r, h')) (ha : a = 9001 ∨ a = 9002) : ∃ q r', vs = .ref q :: r' ∧ iv_big ≤ q ∧ ∃ n f, h.2.2 q = .inl (9, n, .inl f) := by
  cases d with
  | zero => cases hh
  | succ d =>
    unfold iv_run at hh
    rw [if_pos ha] at hh
    split at hh
    · exact iv_str_at hh
    · cases hh
section IV7
variable {p : Program} {l : Launch} {e : Env} {R : Room} {s : State} {m : MethodId} {args : Array Value} {below : List Frame} {meth : Method} {c : Code} {Q : State → Prop}
variable {cc : ByteArray} {D : va_G} {S0 : Nat} {ex : Nat → Nat} {tc : Nat → ClassId} {X : Nat → iv_C} {tx : List (String × Nat × String × Nat)} {own mn : String} {P : iv_Pg} {df : Nat → List Value}
set_option maxHeartbeats 4000000 in
theorem iv_ex_ok {nL d Fc mi k0 : Nat} {rt : Option FieldType} {r : Option Value} {hf : iv_H} (hx : p.tables.exec = Jvm.exec) (hb : c.code = cc) (hown : s.vm.findClass own = some m.cls) (hts : ∀ w ∈ lw_g, w.before args s = true) (hml : c.maxLocals = nL) (hK : va_K D vwCl (iv_tys tc) s) (hE : iv_E S0 ex X tx s) (hmn : meth.name = mn) (h0 : S0 ≤ s.heap.size) (hNo : ∀ q nn y, X q ≠ .inl (0, nn, .inr y))
    (hRc : S0 + hf.1 ≤ s.heap.size + R.cells) (hRs : hf.2.1 ≤ k0 + R.slots) (hRf : d + 1 ≤ R.frames) (hRl : 64 * d + 64 ≤ R.locals) (hmul : iv_MulOk p l e R s m args below meth c Q cc own lw_g D S0 ex tc X)
    (IH : ∀ a vs h r h', iv_run P df d Fc a vs h = some (r, h') → iv_Mt l P D S0 ex tc X tx d a vs h r h') (hrow : ∀ pc f, P.1 mi pc = some f → iv_rok P df tx own mn cc pc f)
    (hret : ∀ (pc n : Nat) (i : Instr) (st : List Value) (h : iv_H) (H : Heap) (locs : List Loc) (cells slots : Nat) (ls : Array Slot), decode cc pc = .ok (i, n) → n = iv_len i → iv_ret i rt st h = some (r, hf) → iv_Wo D S0 ex tc X h H → va_S (fun q : Nat => S0 ≤ q) s.heap H locs → s.heap.size + cells = S0 + h.1 → slots + k0 = h.2.1 → W p l e R s m args below meth c H locs cells slots Q (F0 m pc ls (st.map (iv_tr (iv_ad S0 ex))))) :
    ∀ (F pc : Nat) (L : iv_L) (st : List Value) (h : iv_H) (H : Heap) (locs : List Loc) (cells slots : Nat) (ls : Array Slot), iv_ex P df (iv_run P df d Fc) mi rt F pc L st h = some (r, hf) → iv_Ls (iv_ad S0 ex) nL ls L → iv_Wo D S0 ex tc X h H → va_S (fun q : Nat => S0 ≤ q) s.heap H locs → s.heap.size + cells = S0 + h.1 → slots + k0 = h.2.1 → W p l e R s m args below meth c H locs cells slots Q (F0 m pc ls (st.map (iv_tr (iv_ad S0 ex)))) := by
  intro F
  induction F with
  | zero => intro pc L st h H locs cells slots ls hh; cases hh
  | succ F ih =>
    intro pc L st h H locs cells slots ls hh hl hW hS hC hZ
    have hmono := iv_ex_mono (P := P) (df := df) (call := iv_run P df d Fc) (mi := mi) (rt := rt) (fun a vs h r h' hz => iv_run_mono d Fc a vs h r h' hz)
    unfold iv_ex at hh
    split at hh
    · cases hh
    · next i nx a b sw hfch =>
      obtain ⟨n, hd, hnx, hn, hkst, hhok, hjmp, hswk, hcok⟩ := hrow pc _ hfch
      dsimp only at hd hnx hn hkst hhok hjmp hswk hcok
      subst hnx
      split at hh
      · next hkd =>
        obtain ⟨st', hq, hh⟩ := Option.bind_eq_some_iff.mp hh
        have hn1 := hn (by rw [hkd]; decide)
        refine iv_pur_ok hx hb hown hd hn1 ?_ hq (ih _ _ _ _ _ _ _ _ _ hh hl hW hS hC hZ)
        unfold iv_kst at hkst
        unfold iv_kok
        cases i <;> try trivial
        case ldc x =>
          dsimp only at hkst ⊢
          split at hkst
          · next hb1 =>
            rw [if_pos hb1]
            obtain ⟨hab, t, ht⟩ := hkst
            exact ⟨t, by rw [iv_ad_ex hab]; exact hE.2.2.2.1 _ ht⟩
          · next hb1 =>
            rw [if_neg hb1]
            exact fun q r hqr => hts _ (hkst q r hqr)
        case ldc_w x =>
          dsimp only at hkst ⊢
          split at hkst
          · next hb1 =>
            rw [if_pos hb1]
            obtain ⟨hab, t, ht⟩ := hkst
            exact ⟨t, by rw [iv_ad_ex hab]; exact hE.2.2.2.1 _ ht⟩
          · next hb1 =>
            rw [if_neg hb1]
            exact fun q r hqr => hts _ (hkst q r hqr)
        case ldc2_w x => exact fun q r hqr => hts _ (hkst q r hqr)
      · next hkd =>
        obtain ⟨⟨L', st'⟩, hq, hh⟩ := Option.bind_eq_some_iff.mp hh
        have hn1 := hn (by rw [hkd]; decide)
        exact iv_loc_ok hx hb hd hn1 hl hq (fun ls' hl' => ih _ _ _ _ _ _ _ _ _ hh hl' hW hS hC hZ)
      · next hkd =>
        obtain ⟨⟨g, st'⟩, hq, hh⟩ := Option.bind_eq_some_iff.mp hh
        have hn1 := hn (by rw [hkd]; decide)
        dsimp only at hh
        refine iv_br_ok hx hb hd hn1 (fun off ho => hjmp off (Or.inr ho)) hq (fun hg => ?_) (fun hg => ?_)
        · rw [if_pos hg] at hh
          exact ih _ _ _ _ _ _ _ _ _ hh hl hW hS hC hZ
        · rw [if_neg (by rw [hg]; decide)] at hh
          exact ih _ _ _ _ _ _ _ _ _ hh hl hW hS hC hZ
      · next hkd =>
        obtain ⟨⟨st', h'⟩, hq, hh⟩ := Option.bind_eq_some_iff.mp hh
        have hn1 := hn (by rw [hkd]; decide)
        dsimp only at hh
        have hm1 := iv_hp_mono hq
        have hm2 := hmono _ _ _ _ _ _ _ hh
        refine iv_hp_ok hx hb hown hts hml hl.2.1 hK hE hmn hd hn1 hhok h0 hC hW hS (by omega) (by omega) (by omega) (by omega) hNo hmul hq (fun H' locs' hW' hS' => ?_)
        exact ih _ _ _ _ _ _ _ _ _ hh hl hW' hS' (by omega) (by omega)
      · next hkd =>
        have hn1 := hn (by rw [hkd]; decide)
        cases i <;> (first | (simp [iv_kd] at hkd; done) | skip)
        case goto off =>
          subst hn1
          exact lv_goto hx hb hd (hjmp off (Or.inl rfl)) (ih _ _ _ _ _ _ _ _ _ hh hl hW hS hC hZ)
        all_goals (exfalso; unfold iv_kd at hkd; dsimp only at hkd; split at hkd <;> cases hkd)
      · next hkd =>
        split at hh
        · next x r' =>
          have kk := ih _ _ _ _ _ _ _ _ _ hh hl hW hS hC hZ
          cases i <;> (first | (simp [iv_kd] at hkd; done) | skip)
          case tableswitch dd lo hi offs =>
            obtain ⟨s1, s2⟩ := hswk x
            by_cases h1 : x.toInt < lo
            · exact lv_tableOut hx hb hd (Or.inl h1) (s1 (Or.inl h1)) kk
            · by_cases h2 : hi < x.toInt
              · exact lv_tableOut hx hb hd (Or.inr h2) (s1 (Or.inr h2)) kk
              · obtain ⟨off, s3, s4⟩ := s2 h1 h2
                exact lv_tableIn hx hb hd h1 h2 s3 s4 kk
          case lookupswitch dd ps =>
            exact lv_lookup hx hb hd hswk.1 rfl (hswk.2 x) kk
          all_goals (exfalso; unfold iv_kd at hkd; dsimp only at hkd; split at hkd <;> cases hkd)
        · cases hh
      · next hkd =>
        obtain ⟨⟨vs, rest⟩, hq, hh⟩ := Option.bind_eq_some_iff.mp hh
        have hn1 := hn (by rw [hkd]; decide)
        dsimp only at hh
        split at hh
        · next hc8 =>
          obtain ⟨⟨r', h'⟩, hz, hh⟩ := Option.bind_eq_some_iff.mp hh
          dsimp only at hh
          have hm1 := iv_run_mono _ _ _ _ _ _ _ hz
          have hm2 := hmono _ _ _ _ _ _ _ hh
          have hn3 : n = 3 := by
            rw [hn1]
            cases i <;> (first | rfl | (simp [iv_kd] at hkd; done) | (unfold iv_kd at hkd; dsimp only at hkd; split at hkd <;> cases hkd))
          subst hn3
          refine iv_call_ok hx hb hown hts hml hl.2.1 hK hE hd hkd hcok h0 hW hS (by omega) (by omega) hRf hRl hq hc8.1 hc8.2 (fun ha => iv_run_str hz ha) (IH _ _ _ _ _ hz) (fun H' locs' hW' hS' => ?_)
          exact ih _ _ _ _ _ _ _ _ _ hh hl hW' hS' (by omega) (by omega)
        · cases hh
      · next hk0 hk1 hk2 hk3 hk4 hk5 hk6 =>
        have hn1 := hn hk5
        exact hret pc n i st h H locs cells slots ls hd hn1 hh hW hS hC hZ
end IV7
