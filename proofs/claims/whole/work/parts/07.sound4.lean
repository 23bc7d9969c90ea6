section IV4
variable {p : Program} {l : Launch} {e : Env} {R : Room} {s : State} {m : MethodId} {args : Array Value} {below : List Frame} {meth : Method} {c : Code} {H : Heap} {locs : List Loc} {cells slots : Nat} {Q : State → Prop}
variable {cc : ByteArray} {pc n : Nat} {ls : Array Slot} {D : va_G} {S0 : Nat} {ex : Nat → Nat} {tc : Nat → ClassId} {X : Nat → iv_C} {tx : List (String × Nat × String × Nat)} {Ts : List Cond} {df : Nat → List Value} {own mn : String}
/-- new int[n][k] on the machine: owed below -/
def iv_MulOk (p : Program) (l : Launch) (e : Env) (R : Room) (s : State) (m : MethodId) (args : Array Value) (below : List Frame) (meth : Method) (c : Code) (Q : State → Prop) (cc : ByteArray) (own : String) (Ts : List Cond) (D : va_G) (S0 : Nat) (ex : Nat → Nat) (tc : Nat → ClassId) (X : Nat → iv_C) : Prop :=
  ∀ {pc x a b : Nat} {ls : Array Slot} {sw : List (Int × Nat)} {st st' : List Value} {h h' : iv_H} {H : Heap} {locs : List Loc} {cells slots : Nat} {df : Nat → List Value} {mn : String}, decode cc pc = .ok (.multianewarray x 2, 4) → iv_hok Ts df own mn (.multianewarray x 2) a b sw → S0 ≤ s.heap.size → s.heap.size + cells = S0 + h.1 → iv_Wo D S0 ex tc X h H → va_S (fun q : Nat => S0 ≤ q) s.heap H locs →
    cells + (h'.1 - h.1) ≤ R.cells → slots + (h'.2.1 - h.2.1) ≤ R.slots → iv_mkm st h = some (st', h') →
    (∀ H' locs', iv_Wo D S0 ex tc X h' H' → va_S (fun q : Nat => S0 ≤ q) s.heap H' locs' → W p l e R s m args below meth c H' locs' (cells + (h'.1 - h.1)) (slots + (h'.2.1 - h.2.1)) Q (F0 m (pc + 4) ls (st'.map (iv_tr (iv_ad S0 ex))))) → W p l e R s m args below meth c H locs cells slots Q (F0 m pc ls (st.map (iv_tr (iv_ad S0 ex))))
set_option maxHeartbeats 4000000 in
theorem iv_hp_ok {nL a b : Nat} {i : Instr} {sw : List (Int × Nat)} {st st' : List Value} {h h' : iv_H} (hx : p.tables.exec = Jvm.exec) (hb : c.code = cc) (hown : s.vm.findClass own = some m.cls) (hts : ∀ w ∈ Ts, w.before args s = true) (hml : c.maxLocals = nL) (hls : ls.size = nL) (hK : va_K D vwCl (iv_tys tc) s) (hE : iv_E S0 ex X tx s) (hmn : meth.name = mn)
    (hd : decode cc pc = .ok (i, n)) (hn : n = iv_len i) (hok : iv_hok Ts df own mn i a b sw) (h0 : S0 ≤ s.heap.size) (hC : s.heap.size + cells = S0 + h.1) (hW : iv_Wo D S0 ex tc X h H) (hS : va_S (fun q : Nat => S0 ≤ q) s.heap H locs)
    (hRc : cells + (h'.1 - h.1) ≤ R.cells) (hRs : slots + (h'.2.1 - h.2.1) ≤ R.slots) (hRf : 1 ≤ R.frames) (hRl : 64 ≤ R.locals) (hNo : ∀ q nn y, X q ≠ .inl (0, nn, .inr y)) (hmul : iv_MulOk p l e R s m args below meth c Q cc own Ts D S0 ex tc X)
    (hh : iv_hp df i a b sw st h = some (st', h'))
    (k : ∀ H' locs', iv_Wo D S0 ex tc X h' H' → va_S (fun q : Nat => S0 ≤ q) s.heap H' locs' → W p l e R s m args below meth c H' locs' (cells + (h'.1 - h.1)) (slots + (h'.2.1 - h.2.1)) Q (F0 m (pc + n) ls (st'.map (iv_tr (iv_ad S0 ex))))) : W p l e R s m args below meth c H locs cells slots Q (F0 m pc ls (st.map (iv_tr (iv_ad S0 ex)))) := by
  unfold iv_hp at hh
  subst hn
  have hP := hW.2.2.1
  have hD : va_D (fun q : Nat => S0 ≤ q) (iv_ws S0 ex tc h.1 h.2.2) := iv_ws_D
  have hA : ∀ q : Nat, s.heap.size ≤ q → (fun q : Nat => S0 ≤ q) q := fun q hq => Nat.le_trans h0 hq
  have hbig := hW.2.1
  have k0 : ∀ {G' : Nat → iv_C} {H' : Heap} {locs' : List Loc} {st1 : List Value} {pc1 : Nat}, h' = (h.1, h.2.1, G') → st' = st1 → va_P D vwCl (iv_ws S0 ex tc h.1 G') H' → va_S (fun q : Nat => S0 ≤ q) s.heap H' locs' → (∀ a, iv_big ≤ a → G' a = X a) → pc1 = pc + iv_len i → W p l e R s m args below meth c H' locs' cells slots Q (F0 m pc1 ls (st1.map (iv_tr (iv_ad S0 ex)))) := by
    intro G' H' locs' st1 pc1 e1 e2 hP' hS' hX' e3
    subst e2
    subst e3
    subst e1
    refine iv_wo_of (h' := (h.1, h.2.1, G')) hP' hS' h0 hC hbig hX' fun hW' hS' => ?_
    have := k H' locs' hW' hS'
    simpa using this
  cases i <;> dsimp only at hh <;> (first | (cases hh; done) | skip)
  case getfield x =>
    unfold iv_get at hh
    split at hh
    · next q r =>
      obtain ⟨fs, hf, hh⟩ := Option.bind_eq_some_iff.mp hh
      obtain ⟨v, hv, hh⟩ := Option.bind_eq_some_iff.mp hh
      obtain ⟨hq, hg⟩ := iv_obj_ok hf
      obtain ⟨C, T, N, ty0, ⟨hc, hin, -⟩, hbN, hlk⟩ := hok
      have he := iv_ws_at (S0 := S0) (ex := ex) (tc := tc) (G := h.2.2) hq
      rw [hg] at he
      cases hh
      refine W.eq (show F0 m pc ls ((Value.ref q :: r).map (iv_tr (iv_ad S0 ex))) = F0 m pc ls (.ref (S0 + q) :: r.map (iv_tr (iv_ad S0 ex))) by rw [← iv_ad_own (ex := ex) (Nat.lt_of_lt_of_le hq hbig)]; rfl) ?_
      refine va_get hx hb hts hin hown hK hP q he hc b hbN (hts _ hlk) (fun _ z => z) (v := iv_tr (iv_ad S0 ex) v) (by rw [List.getElem?_map, hv]; rfl) hd ?_
      exact k0 rfl rfl hP hS hW.2.2.2 rfl
    · cases hh
  case putfield x =>
    unfold iv_put at hh
    split at hh
    · next v q r =>
      obtain ⟨fs, hf, hh⟩ := Option.bind_eq_some_iff.mp hh
      obtain ⟨hq, hg⟩ := iv_obj_ok hf
      split at hh
      · next hbf =>
        obtain ⟨C, T, N, ty0, ⟨hc, hin, hty, hnm, -⟩, hbN, hlk, hfi, hto⟩ := hok
        have he := iv_ws_at (S0 := S0) (ex := ex) (tc := tc) (G := h.2.2) hq
        rw [hg] at he
        cases hh
        obtain ⟨hbl, hft⟩ := hbf
        unfold iv_ft at hft
        split at hft
        · next z sw1 =>
          obtain ⟨f1, f2⟩ := iv_fit_ok (iv_ad S0 ex) hft (hto _ _ rfl)
          have hqb := Nat.lt_of_lt_of_le hq hbig
          refine W.eq (show F0 m pc ls ((v :: Value.ref q :: st').map (iv_tr (iv_ad S0 ex))) = F0 m pc ls (iv_tr (iv_ad S0 ex) v :: .ref (S0 + q) :: st'.map (iv_tr (iv_ad S0 ex))) by rw [← iv_ad_own (ex := ex) hqb]; rfl) ?_
          have kk : ∀ (H1 : Heap) (locs1 : List Loc), va_P D vwCl ((iv_ws S0 ex tc h.1 h.2.2).set q (S0 + q, .inr (a, (fs.map (iv_tr (iv_ad S0 ex))).set b (iv_tr (iv_ad S0 ex) v)))) H1 → va_D (fun q : Nat => S0 ≤ q) ((iv_ws S0 ex tc h.1 h.2.2).set q (S0 + q, .inr (a, (fs.map (iv_tr (iv_ad S0 ex))).set b (iv_tr (iv_ad S0 ex) v)))) → va_S (fun q : Nat => S0 ≤ q) s.heap H1 locs1 → W p l e R s m args below meth c H1 locs1 cells slots Q (F0 m (pc + 3) ls (st'.map (iv_tr (iv_ad S0 ex)))) := by
            intro H1 locs1 hP1 _ hS1
            rw [iv_map_set] at hP1
            have hP2 := (iv_ws_up (S0 := S0) (ex := ex) (tc := tc) (N := h.1) (G := h.2.2) (q := q) (.inr (a, fs.set b v))) ▸ hP1
            exact k0 rfl rfl hP2 hS1 (iv_up_X hW.2.2.2 hqb) rfl
          rcases hfi with hfi | ⟨hfi, hi1, hi2⟩
          · exact va_put hx hb hts hin ty0 hty hnm hown hK hP hD hS q he hc b hbN (hts _ hlk) (fun _ z => z) hfi (hty b hbN) f1 f2 (by rw [List.length_map]; exact hbl) hd kk
          · exact va_putF hx hb hts hin ty0 hty hnm hown hK hP hD hS q he hc b hbN (hts _ hlk) (fun _ z => z) hfi (hmn.trans hi1) hi2 (hty b hbN) f1 f2 (by rw [List.length_map]; exact hbl) hd kk
        · cases hft
      · cases hh
    · cases hh
  case getstatic x =>
    obtain ⟨rfl, host, hlk⟩ := hok
    cases hh
    refine va_getsN hx hb hE.2.1 hS hown (va_Nw.use rfl (hE.2.2.1 _ hlk)) (fun _ z => z) hd ?_
    refine W.eq ?_ (k0 rfl rfl hP hS hW.2.2.2 rfl)
    rw [← iv_ad_ex (S0 := S0) (ex := ex) (Nat.le_succ iv_big)]
    rfl
  case iaload =>
    unfold iv_ald at hh
    split at hh
    · next j q r =>
      obtain ⟨⟨t, nn, y⟩, hf, hh⟩ := Option.bind_eq_some_iff.mp hh
      obtain ⟨hq, hg⟩ := iv_arr_ok hf
      split at hh
      · next t' nn' f hy =>
        cases hy
        split at hh
        · next hcnd =>
          obtain ⟨h1, -, h3⟩ := hcnd
          have ht0 : t = 0 := by omega
          subst ht0
          cases hh
          rcases hq with hq | hq
          · have he := iv_ws_at (S0 := S0) (ex := ex) (tc := tc) (G := h.2.2) hq
            rw [hg] at he
            refine W.eq (show F0 m pc ls ((Value.int j :: Value.ref q :: r).map (iv_tr (iv_ad S0 ex))) = F0 m pc ls (.int j :: .ref (S0 + q) :: r.map (iv_tr (iv_ad S0 ex))) by rw [← iv_ad_own (ex := ex) (Nat.lt_of_lt_of_le hq hbig)]; rfl) ?_
            refine va_iald hx hb hK hP q 0 he rfl (iv_oub_ok h3) hd ?_
            exact k0 rfl rfl hP hS hW.2.2.2 rfl
          · refine W.eq (show F0 m pc ls ((Value.int j :: Value.ref q :: r).map (iv_tr (iv_ad S0 ex))) = F0 m pc ls (.int j :: .ref (ex q) :: r.map (iv_tr (iv_ad S0 ex))) by rw [← iv_ad_ex (S0 := S0) (ex := ex) hq]; rfl) ?_
            refine va_ti hx hb (hE.1 q nn f hq ((hW.2.2.2 q hq).symm.trans hg)) hS (iv_oub_ok h3) rfl hd ?_
            exact k0 rfl rfl hP hS hW.2.2.2 rfl
        · cases hh
      · cases hh
    · cases hh
  case baload =>
    unfold iv_ald at hh
    split at hh
    · next j q r =>
      obtain ⟨⟨t, nn, y⟩, hf, hh⟩ := Option.bind_eq_some_iff.mp hh
      obtain ⟨-, hg⟩ := iv_arr_ok hf
      split at hh
      · next t' nn' f hy =>
        cases hy
        split at hh
        · next hcnd =>
          obtain ⟨h1, h2, h3⟩ := hcnd
          have hq := h2 rfl
          have he := iv_ws_at (S0 := S0) (ex := ex) (tc := tc) (G := h.2.2) hq
          rw [hg] at he
          cases hh
          refine W.eq (show F0 m pc ls ((Value.int j :: Value.ref q :: r).map (iv_tr (iv_ad S0 ex))) = F0 m pc ls (.int j :: .ref (S0 + q) :: r.map (iv_tr (iv_ad S0 ex))) by rw [← iv_ad_own (ex := ex) (Nat.lt_of_lt_of_le hq hbig)]; rfl) ?_
          rcases h1 with rfl | ⟨-, rfl, -⟩
          · refine va_bald hx hb hK hP q 2 he rfl (iv_oub_ok h3) hd ?_
            exact k0 rfl rfl hP hS hW.2.2.2 rfl
          · refine va_zald hx hb hK hP q 3 he rfl (iv_oub_ok h3) hd ?_
            exact k0 rfl rfl hP hS hW.2.2.2 rfl
        · cases hh
      · cases hh
    · cases hh
  case laload =>
    unfold iv_jld at hh
    split at hh
    · next j q r =>
      obtain ⟨⟨t, nn, y⟩, hf, hh⟩ := Option.bind_eq_some_iff.mp hh
      obtain ⟨-, hg⟩ := iv_arr_ok hf
      split at hh
      · next t' nn' f hy =>
        cases hy
        split at hh
        · next hcnd =>
          obtain ⟨rfl, hq, h3⟩ := hcnd
          have he := iv_ws_at (S0 := S0) (ex := ex) (tc := tc) (G := h.2.2) hq
          rw [hg] at he
          cases hh
          refine W.eq (show F0 m pc ls ((Value.int j :: Value.ref q :: r).map (iv_tr (iv_ad S0 ex))) = F0 m pc ls (.int j :: .ref (S0 + q) :: r.map (iv_tr (iv_ad S0 ex))) by rw [← iv_ad_own (ex := ex) (Nat.lt_of_lt_of_le hq hbig)]; rfl) ?_
          refine va_lald hx hb hK hP q 1 he rfl (iv_oub_ok h3) hd ?_
          exact k0 rfl rfl hP hS hW.2.2.2 rfl
        · cases hh
      · cases hh
    · cases hh
  case aaload =>
    unfold iv_qld at hh
    split at hh
    · next j q r =>
      obtain ⟨⟨t, nn, y⟩, hf, hh⟩ := Option.bind_eq_some_iff.mp hh
      obtain ⟨-, hg⟩ := iv_arr_ok hf
      split at hh
      · next t' nn' f hy =>
        cases hy
        split at hh
        · next hcnd =>
          obtain ⟨h1, hq, h3⟩ := hcnd
          have he := iv_ws_at (S0 := S0) (ex := ex) (tc := tc) (G := h.2.2) hq
          rw [hg] at he
          cases hh
          refine W.eq (show F0 m pc ls ((Value.int j :: Value.ref q :: r).map (iv_tr (iv_ad S0 ex))) = F0 m pc ls (.int j :: .ref (S0 + q) :: r.map (iv_tr (iv_ad S0 ex))) by rw [← iv_ad_own (ex := ex) (Nat.lt_of_lt_of_le hq hbig)]; rfl) ?_
          have kk : W p l e R s m args below meth c H locs cells slots Q (F0 m (pc + 1) ls (va_rf ((f j.toNatClampNeg).map (iv_ad S0 ex)) :: r.map (iv_tr (iv_ad S0 ex)))) := by
            rw [iv_rf_tr]
            exact k0 rfl rfl hP hS hW.2.2.2 rfl
          rcases h1 with rfl | rfl
          · exact va_aldq hx hb hK hP q 4 he rfl (iv_oub_ok h3) hd kk
          · have hin := iv_oub_ok h3
            have hlt : j.toNatClampNeg < nn := Nat.not_le.mp fun q => hin (Or.inr q)
            exact W.aald (v := va_rf ((f j.toNatClampNeg).map (iv_ad S0 ex))) (ty := .array .int) hx hb (hP q _ he) ((hK.2 5 _ rfl).1 nn (fun i => va_rf ((f i).map (iv_ad S0 ex)))) rfl (fun q => by cases q) (by show ¬ (j < 0 ∨ (arrV _ _ _).slots.size ≤ _); rw [arrV_size]; exact hin) (by show (arrV _ _ _).slots[_]? = _; rw [arrV_read _ _ hlt]) rfl rfl hd kk
        · cases hh
      · cases hh
    · cases hh
  case iastore =>
    unfold iv_ias at hh
    split at hh
    · next x j q r =>
      obtain ⟨⟨t, nn, y⟩, hf, hh⟩ := Option.bind_eq_some_iff.mp hh
      obtain ⟨-, hg⟩ := iv_arr_ok hf
      split at hh
      · next t' nn' f hy =>
        cases hy
        split at hh
        · next hcnd =>
          obtain ⟨rfl, hq, h3⟩ := hcnd
          have hqb := Nat.lt_of_lt_of_le hq hbig
          have he := iv_ws_at (S0 := S0) (ex := ex) (tc := tc) (G := h.2.2) hq
          rw [hg] at he
          cases hh
          refine W.eq (show F0 m pc ls ((Value.int x :: Value.int j :: Value.ref q :: st').map (iv_tr (iv_ad S0 ex))) = F0 m pc ls (.int x :: .int j :: .ref (S0 + q) :: st'.map (iv_tr (iv_ad S0 ex))) by rw [← iv_ad_own (ex := ex) hqb]; rfl) ?_
          refine va_iast hx hb hK hP hD hS q 0 he rfl (iv_oub_ok h3) hd fun H1 locs1 hP1 _ hS1 => ?_
          have hP2 := (iv_ws_up (S0 := S0) (ex := ex) (tc := tc) (N := h.1) (G := h.2.2) (q := q) (.inl (0, nn, .inl (upd f j.toNatClampNeg x)))) ▸ hP1
          exact k0 rfl rfl hP2 hS1 (iv_up_X hW.2.2.2 hqb) rfl
        · cases hh
      · cases hh
    · cases hh
  case bastore =>
    unfold iv_bas at hh
    split at hh
    · next x j q r =>
      obtain ⟨⟨t, nn, y⟩, hf, hh⟩ := Option.bind_eq_some_iff.mp hh
      obtain ⟨-, hg⟩ := iv_arr_ok hf
      split at hh
      · next t' nn' f hy =>
        cases hy
        split at hh
        · next hcnd =>
          obtain ⟨h1, hq, h3⟩ := hcnd
          have hqb := Nat.lt_of_lt_of_le hq hbig
          have he := iv_ws_at (S0 := S0) (ex := ex) (tc := tc) (G := h.2.2) hq
          rw [hg] at he
          cases hh
          refine W.eq (show F0 m pc ls ((Value.int x :: Value.int j :: Value.ref q :: st').map (iv_tr (iv_ad S0 ex))) = F0 m pc ls (.int x :: .int j :: .ref (S0 + q) :: st'.map (iv_tr (iv_ad S0 ex))) by rw [← iv_ad_own (ex := ex) hqb]; rfl) ?_
          rcases h1 with rfl | rfl
          · refine va_bast hx hb hK hP hD hS q 2 he rfl (iv_oub_ok h3) hd fun H1 locs1 hP1 _ hS1 => ?_
            have hP2 := (iv_ws_up (S0 := S0) (ex := ex) (tc := tc) (N := h.1) (G := h.2.2) (q := q) (.inl (2, nn, .inl (upd f j.toNatClampNeg (vp_nar .byte x))))) ▸ hP1
            exact k0 rfl rfl hP2 hS1 (iv_up_X hW.2.2.2 hqb) rfl
          · refine va_zast hx hb hK hP hD hS q 3 he rfl (iv_oub_ok h3) hd fun H1 locs1 hP1 _ hS1 => ?_
            have hP2 := (iv_ws_up (S0 := S0) (ex := ex) (tc := tc) (N := h.1) (G := h.2.2) (q := q) (.inl (3, nn, .inl (upd f j.toNatClampNeg (vp_nar .boolean x))))) ▸ hP1
            exact k0 rfl rfl hP2 hS1 (iv_up_X hW.2.2.2 hqb) rfl
        · cases hh
      · cases hh
    · cases hh
  case lastore =>
    unfold iv_jas at hh
    split at hh
    · next x j q r =>
      obtain ⟨⟨t, nn, y⟩, hf, hh⟩ := Option.bind_eq_some_iff.mp hh
      obtain ⟨-, hg⟩ := iv_arr_ok hf
      split at hh
      · next t' nn' f hy =>
        cases hy
        split at hh
        · next hcnd =>
          obtain ⟨rfl, hq, h3⟩ := hcnd
          have hqb := Nat.lt_of_lt_of_le hq hbig
          have he := iv_ws_at (S0 := S0) (ex := ex) (tc := tc) (G := h.2.2) hq
          rw [hg] at he
          cases hh
          refine W.eq (show F0 m pc ls ((Value.long x :: Value.int j :: Value.ref q :: st').map (iv_tr (iv_ad S0 ex))) = F0 m pc ls (.long x :: .int j :: .ref (S0 + q) :: st'.map (iv_tr (iv_ad S0 ex))) by rw [← iv_ad_own (ex := ex) hqb]; rfl) ?_
          refine va_last hx hb hK hP hD hS q 1 he rfl (iv_oub_ok h3) hd fun H1 locs1 hP1 _ hS1 => ?_
          have hP2 := (iv_ws_up (S0 := S0) (ex := ex) (tc := tc) (N := h.1) (G := h.2.2) (q := q) (.inl (1, nn, .inr (.inl (vp_updL f j.toNatClampNeg x))))) ▸ hP1
          exact k0 rfl rfl hP2 hS1 (iv_up_X hW.2.2.2 hqb) rfl
        · cases hh
      · cases hh
    · cases hh
  case aastore =>
    unfold iv_qas at hh
    split at hh
    · next v j q r =>
      obtain ⟨⟨t, nn, y⟩, hf, hh⟩ := Option.bind_eq_some_iff.mp hh
      obtain ⟨-, hg⟩ := iv_arr_ok hf
      split at hh
      · next t' nn' f hy =>
        cases hy
        obtain ⟨fs, hfv, hh2⟩ := Option.bind_eq_some_iff.mp hh
        clear hh
        obtain ⟨hqv, hgv⟩ := iv_obj_ok hfv
        split at hh2
        · next hcnd =>
          obtain ⟨rfl, hq, h3⟩ := hcnd
          have hqb := Nat.lt_of_lt_of_le hq hbig
          have hvb := Nat.lt_of_lt_of_le hqv hbig
          have he := iv_ws_at (S0 := S0) (ex := ex) (tc := tc) (G := h.2.2) hq
          rw [hg] at he
          have hev := iv_ws_at (S0 := S0) (ex := ex) (tc := tc) (G := h.2.2) hqv
          rw [hgv] at hev
          cases hh2
          refine W.eq (show F0 m pc ls ((Value.ref v :: Value.int j :: Value.ref q :: st').map (iv_tr (iv_ad S0 ex))) = F0 m pc ls (.ref (S0 + v) :: .int j :: .ref (S0 + q) :: st'.map (iv_tr (iv_ad S0 ex))) by rw [← iv_ad_own (ex := ex) hqb, ← iv_ad_own (ex := ex) hvb]; rfl) ?_
          refine va_astq hx hb hK hP hD hS q 4 v 2 (r := (RX2, TX2, 19)) he rfl hev rfl (iv_oub_ok h3) hd fun H1 locs1 hP1 _ hS1 => ?_
          rw [← iv_ad_own (ex := ex) hvb, iv_up_map] at hP1
          have hP2 := (iv_ws_up (S0 := S0) (ex := ex) (tc := tc) (N := h.1) (G := h.2.2) (q := q) (.inl (4, nn, .inr (.inr (va_up f j.toNatClampNeg (some v)))))) ▸ hP1
          exact k0 rfl rfl hP2 hS1 (iv_up_X hW.2.2.2 hqb) rfl
        · cases hh2
      · cases hh
    · cases hh
  case arraylength =>
    unfold iv_alen at hh
    split at hh
    · next q r =>
      obtain ⟨⟨t, nn, y⟩, hf, hh2⟩ := Option.bind_eq_some_iff.mp hh
      clear hh
      obtain ⟨hq, hg⟩ := iv_arr_ok hf
      dsimp only at hh2
      split at hh2
      · next hcnd =>
        obtain ⟨h1, h2⟩ := hcnd
        cases hh2
        rcases hq with hq | hq
        · have he := iv_ws_at (S0 := S0) (ex := ex) (tc := tc) (G := h.2.2) hq
          rw [hg] at he
          refine W.eq (show F0 m pc ls ((Value.ref q :: r).map (iv_tr (iv_ad S0 ex))) = F0 m pc ls (.ref (S0 + q) :: r.map (iv_tr (iv_ad S0 ex))) by rw [← iv_ad_own (ex := ex) (Nat.lt_of_lt_of_le hq hbig)]; rfl) ?_
          have ht : ∃ (t0 : Nat) (ty : FieldType), (iv_tys tc)[t0]? = some (tc t, ty) := by
            rcases (show t = 0 ∨ t = 1 ∨ t = 2 ∨ t = 3 ∨ t = 4 ∨ t = 5 by omega) with rfl | rfl | rfl | rfl | rfl | rfl
            · exact ⟨0, _, rfl⟩
            · exact ⟨1, _, rfl⟩
            · exact ⟨2, _, rfl⟩
            · exact ⟨3, _, rfl⟩
            · exact ⟨4, _, rfl⟩
            · exact ⟨5, _, rfl⟩
          obtain ⟨t0, ty, ht⟩ := ht
          refine va_alen hx hb hK hP q t0 (x := (nn, iv_pl (iv_ad S0 ex) y)) he ht rfl hd ?_
          exact k0 rfl rfl hP hS hW.2.2.2 rfl
        · have ht : t = 0 := by
            rcases h2 with h2 | h2
            · exact absurd (Nat.lt_of_lt_of_le h2 hbig) (Nat.not_lt.mpr hq)
            · exact h2
          subst ht
          have hXq := (hW.2.2.2 q hq).symm.trans hg
          refine W.eq (show F0 m pc ls ((Value.ref q :: r).map (iv_tr (iv_ad S0 ex))) = F0 m pc ls (.ref (ex q) :: r.map (iv_tr (iv_ad S0 ex))) by rw [← iv_ad_ex (S0 := S0) (ex := ex) hq]; rfl) ?_
          rcases y with f | y
          · refine va_tlen hx hb (hE.1 q nn f hq hXq) hS rfl hd ?_
            exact k0 rfl rfl hP hS hW.2.2.2 rfl
          · exact absurd hXq (hNo q nn y)
      · cases hh2
    · cases hh
  case newarray t =>
    obtain ⟨kd, hkd, hh2⟩ := Option.bind_eq_some_iff.mp hh
    clear hh
    unfold iv_mka at hh2
    split at hh2
    · next nn r =>
      split at hh2
      · next hcnd =>
        obtain ⟨hn0, hnb, hlt⟩ := hcnd
        cases hh2
        have hcb : nn.toNatClampNeg * componentBytes (newarray.typeOf t) ≤ 536870912 := by
          have : componentBytes (newarray.typeOf t) ≤ 8 := by cases t <;> decide
          have := Nat.mul_le_mul hnb this
          omega
        have e1 : h.1 + 1 - h.1 = 1 := by omega
        have e2 : h.2.1 + nn.toNatClampNeg - h.2.1 = nn.toNatClampNeg := by omega
        dsimp only at hRc hRs k
        rw [e1] at hRc k
        rw [e2] at hRs k
        refine va_newa (atype := t) (ty := newarray.typeOf t) (a0 := (nn.toNatClampNeg, iv_pl (iv_ad S0 ex) (iv_z kd))) hx hb (hts _ hok) rfl hK hP hD hS hA (fun cA => ?_) hn0 rfl hcb hRc hRs hd fun q cA H1 hK1 hP1 hD1 hS1 => ?_
        · cases t <;> cases hkd <;> rfl
        · have ecA : cA = tc kd := by
            have hl : (iv_tys tc ++ [(cA, newarray.typeOf t)])[6]? = some (cA, newarray.typeOf t) := rfl
            cases t <;> cases hkd
            · exact iv_tc (k1 := 3) hK1 hK hl rfl
            · exact iv_tc (k1 := 2) hK1 hK hl rfl
            · exact iv_tc (k1 := 0) hK1 hK hl rfl
            · exact iv_tc (k1 := 1) hK1 hK hl rfl
          subst ecA
          exact iv_new_ok (x := .inl (kd, nn.toNatClampNeg, iv_z kd)) hW hlt h0 hC hP1 hD1 hS1 k
      · cases hh2
    · cases hh2
  case anewarray x =>
    split at hh
    · next ha =>
      unfold iv_mka at hh
      split at hh
      · next nn r =>
        split at hh
        · next hcnd =>
          obtain ⟨hn0, hnb, hlt⟩ := hcnd
          cases hh
          have e1 : h.1 + 1 - h.1 = 1 := by omega
          have e2 : h.2.1 + nn.toNatClampNeg - h.2.1 = nn.toNatClampNeg := by omega
          dsimp only at hRc hRs k
          rw [e1] at hRc k
          rw [e2] at hRs k
          refine va_newq hx hb hown (hts _ hok) hE.2.2.2.2.1 hK hP hD hS hA hn0 rfl (by omega) hRc hRs hd fun q cA H1 hK1 hP1 hD1 hS1 => ?_
          have ecA : cA = tc 4 := iv_tc (k0 := 6) (k1 := 4) hK1 hK rfl rfl
          subst ecA
          exact iv_new_ok (x := .inl (4, nn.toNatClampNeg, iv_z 4)) hW hlt h0 hC hP1 hD1 hS1 k
        · cases hh
      · cases hh
    · cases hh
  case multianewarray x kk =>
    obtain ⟨rfl, -⟩ := id hok
    exact hmul hd hok h0 hC hW hS hRc hRs hh k
  case new x =>
    unfold iv_new at hh
    split at hh
    · next hlt =>
      obtain ⟨C, T, N, ty0, ⟨hc, hin, hty, hnm, hdf⟩, hl1, hl2, hl3⟩ := hok
      cases hh
      have e1 : h.1 + 1 - h.1 = 1 := by omega
      have e2 : h.2.1 + (df a).length - h.2.1 = N := by rw [hdf, List.length_map, List.length_range]; omega
      dsimp only at hRc hRs k
      rw [e1] at hRc k
      rw [e2] at hRs k
      have hen : iv_en (iv_ad S0 ex) tc (.inr (a, df a)) = .inr (a, df a) := by
        unfold iv_en
        dsimp only
        rw [hdf, List.map_map]
        refine congrArg (fun z => Sum.inr (a, z)) (List.map_congr_left fun j _ => ?_)
        show iv_tr _ (defaultValue _) = _
        cases ty0 j <;> rfl
      refine va_new hx hb hts hin ty0 hty hown (hts _ hl1) (hts _ hl2) (hts _ hl3) hK hP hD hS hA hc (fs := df a) (fun j hj => ?_) hRc hRs hd fun q H1 hP1 hD1 hS1 => ?_
      · unfold vp_V
        rw [hdf, List.getD_eq_getElem?_getD, List.getElem?_map, List.getElem?_range hj]
        rfl
      · rw [← hen] at hP1 hD1
        exact iv_new_ok (x := .inr (a, df a)) hW hlt h0 hC hP1 hD1 hS1 k
    · cases hh
  case invokestatic x =>
    split at hh
    · next ha =>
      obtain ⟨hl1, hl2, hl3, hl4⟩ := hok.1 ha
      unfold iv_cpy at hh
      split at hh
      · next nn dp q1 sp q0 r =>
        obtain ⟨y0, hf0, hh2⟩ := Option.bind_eq_some_iff.mp hh
        clear hh
        obtain ⟨y1, hf1, hh⟩ := Option.bind_eq_some_iff.mp hh2
        clear hh2
        obtain ⟨-, hg0⟩ := iv_arr_ok hf0
        obtain ⟨-, hg1⟩ := iv_arr_ok hf1
        split at hh
        · next n0 f n1 g =>
          split at hh
          · next hcnd =>
            obtain ⟨hq0, hq1, ⟨s1, s2, s3⟩, s4, s5, s6⟩ := hcnd
            have hb0 := Nat.lt_of_lt_of_le hq0 hbig
            have hb1 := Nat.lt_of_lt_of_le hq1 hbig
            have he0 := iv_ws_at (S0 := S0) (ex := ex) (tc := tc) (G := h.2.2) hq0
            rw [hg0] at he0
            have he1 := iv_ws_at (S0 := S0) (ex := ex) (tc := tc) (G := h.2.2) hq1
            rw [hg1] at he1
            cases hh
            refine W.eq (show F0 m pc ls ((Value.int nn :: Value.int dp :: Value.ref q1 :: Value.int sp :: Value.ref q0 :: st').map (iv_tr (iv_ad S0 ex))) = F0 m pc ls (.int nn :: .int dp :: .ref (S0 + q1) :: .int sp :: .ref (S0 + q0) :: st'.map (iv_tr (iv_ad S0 ex))) by rw [← iv_ad_own (ex := ex) hb0, ← iv_ad_own (ex := ex) hb1]; rfl) ?_
            refine va_copyi hx hb (hml.trans hls.symm) hown (hts _ hl1) (hts _ hl2) (hts _ hl3) (hts _ hl4) hK hP hD hS q0 q1 0 0 (ty := .int) he0 he1 rfl rfl rfl s1 s2 s3 s4 s5 (fun _ _ => rfl) hRf ?_ hd fun H1 locs1 hP1 _ hS1 => ?_
            · rw [iv_tr_cats]
              have : nativeFrameWords "java/lang/System" "arraycopy" 5 + 11 ≤ 56 := by decide +kernel
              omega
            · have hP2 := (iv_ws_up (S0 := S0) (ex := ex) (tc := tc) (N := h.1) (G := h.2.2) (q := q1) (.inl (0, n1, .inl (va_cpy f g sp.toNatClampNeg dp.toNatClampNeg nn.toNatClampNeg)))) ▸ hP1
              exact k0 rfl rfl hP2 hS1 (iv_up_X hW.2.2.2 hb1) rfl
          · cases hh
        · next n0 f n1 g =>
          split at hh
          · next hcnd =>
            obtain ⟨hq0, hq1, ⟨s1, s2, s3⟩, s4, s5, s6⟩ := hcnd
            have hb0 := Nat.lt_of_lt_of_le hq0 hbig
            have hb1 := Nat.lt_of_lt_of_le hq1 hbig
            have he0 := iv_ws_at (S0 := S0) (ex := ex) (tc := tc) (G := h.2.2) hq0
            rw [hg0] at he0
            have he1 := iv_ws_at (S0 := S0) (ex := ex) (tc := tc) (G := h.2.2) hq1
            rw [hg1] at he1
            cases hh
            refine W.eq (show F0 m pc ls ((Value.int nn :: Value.int dp :: Value.ref q1 :: Value.int sp :: Value.ref q0 :: st').map (iv_tr (iv_ad S0 ex))) = F0 m pc ls (.int nn :: .int dp :: .ref (S0 + q1) :: .int sp :: .ref (S0 + q0) :: st'.map (iv_tr (iv_ad S0 ex))) by rw [← iv_ad_own (ex := ex) hb0, ← iv_ad_own (ex := ex) hb1]; rfl) ?_
            refine va_copyl hx hb (hml.trans hls.symm) hown (hts _ hl1) (hts _ hl2) (hts _ hl3) (hts _ hl4) hK hP hD hS q0 q1 1 1 (ty := .long) he0 he1 rfl rfl rfl s1 s2 s3 s4 s5 (fun _ _ => rfl) hRf ?_ hd fun H1 locs1 hP1 _ hS1 => ?_
            · rw [iv_tr_cats]
              have : nativeFrameWords "java/lang/System" "arraycopy" 5 + 11 ≤ 56 := by decide +kernel
              omega
            · have hP2 := (iv_ws_up (S0 := S0) (ex := ex) (tc := tc) (N := h.1) (G := h.2.2) (q := q1) (.inl (1, n1, .inr (.inl (va_cpy f g sp.toNatClampNeg dp.toNatClampNeg nn.toNatClampNeg))))) ▸ hP1
              exact k0 rfl rfl hP2 hS1 (iv_up_X hW.2.2.2 hb1) rfl
          · cases hh
        · cases hh
      · cases hh
    · split at hh
      · next ha =>
        obtain ⟨hl1, hl2, hl3, hl4⟩ := hok.2.1 ha
        unfold iv_mm at hh
        split at hh
        · next y x r =>
          split at hh
          · next hc8 =>
            cases hh
            refine va_mmin hx hb (hml.trans hls.symm) hown (hts _ hl1) (hts _ hl2) (hts _ hl3) (hts _ hl4) hRf ?_ (by omega) (by omega) hd ?_
            · rw [iv_tr_cats]; omega
            · exact k0 rfl rfl hP hS hW.2.2.2 rfl
          · cases hh
        · cases hh
      · split at hh
        · next ha =>
          obtain ⟨hl1, hl2, hl3, hl4⟩ := hok.2.2 ha
          unfold iv_mm at hh
          split at hh
          · next y x r =>
            split at hh
            · next hc8 =>
              cases hh
              refine va_mmax hx hb (hml.trans hls.symm) hown (hts _ hl1) (hts _ hl2) (hts _ hl3) (hts _ hl4) hRf ?_ (by omega) (by omega) hd ?_
              · rw [iv_tr_cats]; omega
              · exact k0 rfl rfl hP hS hW.2.2.2 rfl
            · cases hh
          · cases hh
        · cases hh
  case invokespecial x =>
    split at hh
    · next ha =>
      obtain ⟨hl1, hl2, hl3⟩ := hok ha
      unfold iv_oin at hh
      split at hh
      · next q r =>
        split at hh
        · next hc8 =>
          cases hh
          refine W.objInit hx hb hown (hts _ hl1) (hts _ hl2) (hts _ hl3) rfl (hls.trans hml.symm) (a := iv_ad S0 ex q) (rest := st'.map (iv_tr (iv_ad S0 ex))) rfl hd hRf ?_ ?_
          · have := lv_room (m := m) (pc := pc) (ls := ls) (rest := (Value.ref q :: st').map (iv_tr (iv_ad S0 ex))) (st := st'.map (iv_tr (iv_ad S0 ex))) (by rw [iv_tr_cats]; exact hc8)
            omega
          · exact k0 rfl rfl hP hS hW.2.2.2 rfl
        · cases hh
      · cases hh
    · cases hh
end IV4
