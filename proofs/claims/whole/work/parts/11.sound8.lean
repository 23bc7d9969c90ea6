-- THE INTERPRETER IS TRUE OF THE MACHINE, eighth part: every run gives a contract
theorem iv_ent_in {ad : Nat → Nat} : ∀ (vs : List Value) (k j : Nat) (v : Value), (vs.flatMap fun v => if v.category = 2 then [some v, none] else [some v])[j]? = some (some v) → (k + j, iv_tr ad v) ∈ lv_args k (vs.map (iv_tr ad)) := by
  intro vs
  induction vs with
  | nil => intro k j v h; cases h
  | cons w vs ih =>
    intro k j v h
    rw [List.flatMap_cons] at h
    rw [List.map_cons, lv_args, iv_tr_cat]
    split at h
    · next hc =>
      rw [if_pos hc]
      match j with
      | 0 => cases h; exact List.mem_cons_self
      | 1 => cases h
      | j + 2 =>
        have := ih (k + 2) j v h
        rw [show k + (j + 2) = k + 2 + j by omega]
        exact List.mem_cons_of_mem _ this
    · next hc =>
      rw [if_neg hc]
      match j with
      | 0 => cases h; exact List.mem_cons_self
      | j + 1 =>
        have := ih (k + 1) j v h
        rw [show k + (j + 1) = k + 1 + j by omega]
        exact List.mem_cons_of_mem _ this
theorem iv_ent_len {ad : Nat → Nat} (vs : List Value) : (vs.flatMap fun v => if v.category = 2 then [some v, none] else [some v]).length = (lg_sl (vs.map (iv_tr ad))).length := by
  induction vs with
  | nil => rfl
  | cons v vs ih =>
    unfold lg_sl at ih ⊢
    rw [List.map_cons, List.flatMap_cons, List.flatMap_cons, List.length_append, List.length_append, ih, iv_tr_cat]
    split <;> rfl
theorem iv_ent_ok {ad : Nat → Nat} {n : Nat} {vs : List Value} (h : (iv_ent n vs).length = n) : (lg_sl (vs.map (iv_tr ad))).length ≤ n ∧ ∀ ls : Array Slot, lv_has ls n (lv_args 0 (vs.map (iv_tr ad))) → iv_Ls ad n ls (iv_ent n vs) := by
  have hle : (lg_sl (vs.map (iv_tr ad))).length ≤ n := by
    rw [← iv_ent_len]
    unfold iv_ent at h
    dsimp only at h
    rw [List.length_append] at h
    omega
  refine ⟨hle, fun ls hl => ⟨h, hl.1, hl.2.1, fun j v hj => ?_⟩⟩
  unfold iv_ent at hj
  dsimp only at hj
  by_cases hlt : j < (vs.flatMap fun v => if v.category = 2 then [some v, none] else [some v]).length
  · rw [List.getElem?_append_left hlt] at hj
    have := iv_ent_in (ad := ad) vs 0 j v hj
    rw [Nat.zero_add] at this
    exact hl.2.2 _ this
  · rw [List.getElem?_append_right (by omega)] at hj
    rw [List.getElem?_replicate] at hj
    split at hj <;> cases hj
/-- the program's tables are true of the class files -/
def iv_Pok (P : iv_Pg) (df : Nat → List Value) (tx : List (String × Nat × String × Nat)) : Prop := ∀ a y cc n rt oc, P.2 a = some (y, cc, n, rt, oc) → a ≠ 9001 → a ≠ 9002 → plainName y.cls = true ∧ ∀ pc f, P.1 a pc = some f → iv_rok P df tx y.cls y.name cc pc f
section IV8
variable {l : Launch} {D : va_G} {S0 : Nat} {ex : Nat → Nat} {tc : Nat → ClassId} {X : Nat → iv_C} {tx : List (String × Nat × String × Nat)} {P : iv_Pg} {df : Nat → List Value}
/-- the two members of String: owed below -/
def iv_StrOk (l : Launch) (P : iv_Pg) (D : va_G) (S0 : Nat) (ex : Nat → Nat) (tc : Nat → ClassId) (X : Nat → iv_C) (tx : List (String × Nat × String × Nat)) : Prop := ∀ d a vs h r h', 8 ≤ d → (a = 9001 ∨ a = 9002) → iv_str a vs h = some (r, h') → iv_Mt l P D S0 ex tc X tx (d + 1) a vs h r h'
set_option maxHeartbeats 4000000 in
theorem iv_run_ok (hP : iv_Pok P df tx) (hNo : ∀ q nn y, X q ≠ .inl (0, nn, .inr y)) (hstr : iv_StrOk l P D S0 ex tc X tx)
    (hmul : ∀ p e R s m args below meth c Q cc own, p.tables.exec = Jvm.exec → c.code = cc → s.vm.findClass own = some m.cls → (∀ w ∈ lw_g, w.before args s = true) → va_K D vwCl (iv_tys tc) s → iv_E S0 ex X tx s → iv_MulOk p l e R s m args below meth c Q cc own lw_g D S0 ex tc X) :
    ∀ (d F a : Nat) (vs : List Value) (h : iv_H) (r : Option Value) (h' : iv_H), iv_run P df d F a vs h = some (r, h') → iv_Mt l P D S0 ex tc X tx d a vs h r h' := by
  intro d
  induction d with
  | zero => intro F a vs h r h' hh; cases hh
  | succ d ih =>
    intro F a vs h r h' hh
    have hmo := iv_run_mono _ _ _ _ _ _ _ hh
    unfold iv_run at hh
    split at hh
    · next ha =>
      split at hh
      · next h8 => exact hstr d a vs h r h' h8 ha hh
      · cases hh
    · next ha =>
      split at hh
      · cases hh
      · next y cc n rt oc hPa =>
        split at hh
        · next hlen =>
          intro y2 cc2 n2 rt2 oc2 hPa2
          rw [hPa] at hPa2
          cases hPa2
          obtain ⟨hpl, hrow⟩ := hP a y cc n rt oc hPa (fun z => ha (Or.inl z)) (fun z => ha (Or.inr z))
          refine Met.ofW (cc := cc) (maxL := n) (ret := rt) hpl rfl ?_
          intro p e s m args below meth c s₁ B hml hv
          obtain ⟨rfl, h0, hW, hK, hE⟩ := hv
          have hx := B.exec
          have hb := B.bytes
          have hr := B.returns
          have hts0 := atoms_spec (ws := Cond.code y cc n rt :: lw_g) B.pre
          have hts : ∀ w ∈ lw_g, w.before (vs.map (iv_tr (iv_ad S0 ex))).toArray s = true := fun w hw => hts0 w (List.mem_cons_of_mem _ hw)
          have hown : s.vm.findClass y.cls = some m.cls := findClass_of_methodNamed B.named
          have hlocks := B.notSynchronized
          have hmn : meth.name = y.name := (name_of_methodNamed B.named B.method).1
          obtain ⟨hle, hent⟩ := iv_ent_ok (ad := iv_ad S0 ex) hlen
          have hl := hent _ (lv_entry (vs.map (iv_tr (iv_ad S0 ex))) hle)
          rw [lg_entry_eq]
          generalize (lg_sl (vs.map (iv_tr (iv_ad S0 ex))) ++ List.replicate (n - (lg_sl (vs.map (iv_tr (iv_ad S0 ex)))).length) Slot.unset).toArray = ls at hl ⊢
          have hsz : s.heap.size = S0 + h.1 := hW.1
          refine iv_ex_ok (Q := MQ below (iv_Qc D S0 ex tc X r h') (vs.map (iv_tr (iv_ad S0 ex))).toArray s (h'.1 - h.1) (h'.2.1 - h.2.1) (fun q => S0 ≤ q)) (k0 := h.2.1) (hf := h') hx hb hown hts hml hK hE hmn h0 hNo ?_ ?_ ?_ ?_ (hmul _ _ _ _ _ _ _ _ _ _ _ _ hx hb hown hts hK hE) (fun a vs h r h' hz => ih F a vs h r h' hz) hrow ?_ F 0 (iv_ent n vs) [] h s.heap [] 0 0 ls hh hl hW va_S.rf (by omega) (by omega)
          · show S0 + h'.1 ≤ s.heap.size + (h'.1 - h.1); omega
          · show h'.2.1 ≤ h.2.1 + (h'.2.1 - h.2.1); omega
          · show d + 1 ≤ d + 1; exact Nat.le_refl _
          · show 64 * d + 64 ≤ 64 * (d + 1); omega
          · intro pc n1 i st h1 H locs cells slots ls1 hd hn1 hrt hW1 hS1 hC1 hZ1
            have e1 := iv_ret_h hrt
            subst e1
            have ec : cells = h'.1 - h.1 := by omega
            have es : slots = h'.2.1 - h.2.1 := by omega
            subst ec
            subst es
            unfold iv_ret at hrt
            subst hn1
            have hq : ∀ t : State, t.heap = H → s.WarmedH t.vm → iv_Qc D S0 ex tc X r h' (vs.map (iv_tr (iv_ad S0 ex))).toArray s (.returned (r.map (iv_tr (iv_ad S0 ex)))) t := fun t ht _ => ⟨rfl, by rw [ht]; exact hW1, hS1.F ht⟩
            cases i <;> dsimp only at hrt <;> (first | (cases hrt; done) | skip)
            case return_ =>
              split at hrt
              · cases hrt
                exact W.vret hx hb hr hq hS1.2.2 hd
              · cases hrt
            case ireturn =>
              split at hrt
              · cases hrt
                exact W.iret hx hb hr hq hS1.2.2 hd
              · split at hrt
                · next hv01 =>
                  cases hrt
                  refine W.zret hx hb hr ?_ hq hS1.2.2 hd
                  rcases hv01 with rfl | rfl <;> rfl
                · cases hrt
              · cases hrt
            case lreturn =>
              split at hrt
              · cases hrt
                exact W.lret hx hb hr hq hS1.2.2 hd
              · cases hrt
            case areturn =>
              split at hrt
              · cases hrt
                exact W.aret hx hb hr (Or.inr ⟨_, rfl⟩) (Or.inr ⟨_, rfl⟩) hq hS1.2.2 hd
              · cases hrt
                exact W.aret hx hb hr (Or.inr ⟨_, rfl⟩) (Or.inl rfl) hq hS1.2.2 hd
              · cases hrt
                exact W.aret hx hb hr (Or.inl ⟨_, rfl⟩) (Or.inr ⟨_, rfl⟩) hq hS1.2.2 hd
              · cases hrt
                exact W.aret hx hb hr (Or.inl ⟨_, rfl⟩) (Or.inl rfl) hq hS1.2.2 hd
              · cases hrt
        · cases hh
end IV8
