-- THE INTERPRETER IS TRUE OF THE MACHINE, second part: the heap
def iv_ad (S0 : Nat) (ex : Nat → Nat) (q : Nat) : Nat := if q < iv_big then S0 + q else ex q
abbrev iv_Y : Type := (Nat → Int32) ⊕ (Nat → Int64) ⊕ (Nat → Option Nat)
def iv_pl (ad : Nat → Nat) (x : iv_Y) : (Nat → Int32) ⊕ (Nat → Int64) ⊕ (Nat → UInt32) ⊕ (Nat → UInt64) ⊕ (Nat → Option Nat) := match x with
  | .inl f => .inl f
  | .inr (.inl f) => .inr (.inl f)
  | .inr (.inr f) => .inr (.inr (.inr (.inr (fun i => (f i).map ad))))
def iv_en (ad : Nat → Nat) (tc : Nat → ClassId) (c : iv_C) : va_E := match c with
  | .inl (k, n, x) => .inl (tc k, n, iv_pl ad x)
  | .inr (ci, fs) => .inr (ci, fs.map (iv_tr ad))
def iv_ws (S0 : Nat) (ex : Nat → Nat) (tc : Nat → ClassId) (N : Nat) (G : Nat → iv_C) : va_W := (List.range N).map fun k => (S0 + k, iv_en (iv_ad S0 ex) tc (G k))
def iv_tys (tc : Nat → ClassId) : List (ClassId × FieldType) := [(tc 0, .int), (tc 1, .long), (tc 2, .byte), (tc 3, .boolean), (tc 4, .object "WalkingRooms$House"), (tc 5, .array .int)]
section IVW
variable {S0 : Nat} {ex : Nat → Nat} {tc : Nat → ClassId} {N : Nat} {G : Nat → iv_C}
theorem iv_ws_at {q : Nat} (h : q < N) : (iv_ws S0 ex tc N G)[q]? = some (S0 + q, iv_en (iv_ad S0 ex) tc (G q)) := by
  unfold iv_ws
  rw [List.getElem?_map, List.getElem?_range h]
  rfl
theorem iv_ws_len : (iv_ws S0 ex tc N G).length = N := by unfold iv_ws; rw [List.length_map, List.length_range]
theorem iv_ws_of {k : Nat} {x : Nat × va_E} (h : (iv_ws S0 ex tc N G)[k]? = some x) : k < N ∧ x = (S0 + k, iv_en (iv_ad S0 ex) tc (G k)) := by
  have hl := (List.getElem?_eq_some_iff.mp h).1
  rw [iv_ws_len] at hl
  rw [iv_ws_at hl] at h
  exact ⟨hl, (Option.some.inj h).symm⟩
theorem iv_ws_up {q : Nat} (c : iv_C) : (iv_ws S0 ex tc N G).set q (S0 + q, iv_en (iv_ad S0 ex) tc c) = iv_ws S0 ex tc N (iv_up G q c) := by
  refine List.ext_getElem? fun k => ?_
  by_cases hk : k < N
  · rw [iv_ws_at hk]
    by_cases e : k = q
    · subst e
      rw [List.getElem?_set_self (by rw [iv_ws_len]; exact hk)]
      simp [iv_up]
    · rw [List.getElem?_set_ne (Ne.symm e), iv_ws_at hk]
      simp [iv_up, e]
  · rw [List.getElem?_eq_none (by rw [List.length_set, iv_ws_len]; omega), List.getElem?_eq_none (by rw [iv_ws_len]; omega)]
theorem iv_ws_push (c : iv_C) : iv_ws S0 ex tc N G ++ [(S0 + N, iv_en (iv_ad S0 ex) tc c)] = iv_ws S0 ex tc (N + 1) (iv_up G N c) := by
  unfold iv_ws
  rw [List.range_succ, List.map_append]
  congr 1
  · refine List.map_congr_left fun k hk => ?_
    have : k ≠ N := by have := List.mem_range.mp hk; omega
    simp [iv_up, this]
  · simp [iv_up]
theorem iv_ws_D : va_D (fun q : Nat => S0 ≤ q) (iv_ws S0 ex tc N G) := by
  refine ⟨fun i j x y hi hj hxy => ?_, fun k x hk => ?_⟩
  · obtain ⟨-, rfl⟩ := iv_ws_of hi
    obtain ⟨-, rfl⟩ := iv_ws_of hj
    simp only at hxy
    omega
  · obtain ⟨-, rfl⟩ := iv_ws_of hk
    exact Nat.le_add_right _ _
end IVW
/-- the heap of the machine holds what the interpreter's does -/
def iv_Wo (D : va_G) (S0 : Nat) (ex : Nat → Nat) (tc : Nat → ClassId) (X : Nat → iv_C) (h : iv_H) (H : Heap) : Prop := H.size = S0 + h.1 ∧ h.1 ≤ iv_big ∧ va_P D vwCl (iv_ws S0 ex tc h.1 h.2.2) H ∧ ∀ a, iv_big ≤ a → h.2.2 a = X a
/-- what stands outside: the rows of numbers, the static field, the links between nest mates, the texts -/
def iv_nest : List Cond := lw_tbl.filter fun w => match w with
  | .methodLinkNest _ _ _ _ => true
  | .fieldLinkNest _ _ _ _ _ _ => true
  | _ => false
/-- the class of arrays of arrays of ints -/
def iv_Gr (U : State) : Prop := ∃ (cA cI : ClassId) (kA : Class), U.vm.findClass "[[I" = some cA ∧ U.vm.classes[cA]? = some kA ∧ kA.kind = .array cI (.array .int) ∧ U.vm.findClass "[I" = some cI
theorem iv_Gr.moved {u U : State} (hvm : u.vm.Alike U.vm) (h : iv_Gr u) : iv_Gr U := by
  obtain ⟨cA, cI, kA, h1, h2, h3, h4⟩ := h
  obtain ⟨k', hk', he⟩ := hvm.2.2 _ _ h2
  exact ⟨cA, cI, k', by rw [hvm.findClass]; exact h1, hk', by rw [he]; exact h3, by rw [hvm.findClass]; exact h4⟩
/-- a constant text: its signs are f -/
def iv_Tx (t n : Nat) (f : Nat → Int32) (A : Nat → Prop) (U : State) (H : Heap) : Prop := ∃ (v : Nat) (g : Nat → Int32), va_O "java/lang/String" t A U H ∧ va_OF "java/lang/String" "coder" "B" (.int 0) t A U H ∧ va_OF "java/lang/String" "value" "[B" (.ref v) t A U H ∧ va_T .byte v n (fun j => .int (g j)) A U H ∧ n < 2 ^ 31 ∧ ∀ j, j < n → f j = (g j &&& 255)
def iv_E (S0 : Nat) (ex : Nat → Nat) (X : Nat → iv_C) (tx : List (String × Nat × String × Nat)) (U : State) : Prop :=
  (∀ (a n : Nat) (f : Nat → Int32), iv_big ≤ a → X a = .inl (0, n, .inl f) → va_T .int (ex a) n (fun j => .int (f j)) (fun q => S0 ≤ q) U U.heap) ∧
  va_Z "WalkingRooms" "RANKS" "[I" (.ref (ex (iv_big + 1))) (fun q => S0 ≤ q) U U.heap ∧ (∀ w ∈ iv_nest, va_Nw w U) ∧ (∀ r ∈ tx, vk_R r.1 r.2.1 r.2.2.1 (ex r.2.2.2) U) ∧ va_AO "WalkingRooms$House" U ∧
  (∀ (a n : Nat) (f : Nat → Int32), iv_big ≤ a → X a = .inl (9, n, .inl f) → iv_Tx (ex a) n f (fun q => S0 ≤ q) U U.heap) ∧ va_Z "java/lang/String" "COMPACT_STRINGS" "Z" (.int 1) (fun q => S0 ≤ q) U U.heap ∧ va_Zq "jdk/internal/util/Preconditions" "SIOOBE_FORMATTER" "Ljava/util/function/BiFunction;" (fun q => S0 ≤ q) U U.heap ∧ iv_Gr U
/-- a class as the tables have it -/
def iv_cl (Ts : List Cond) (df : Nat → List Value) (ci : Nat) (C : String) (T : u_T) (N : Nat) (ty0 : Nat → FieldType) : Prop := vwCl[ci]? = some (C, T, N) ∧ (∀ w ∈ u_ws C T N, w ∈ Ts) ∧ (∀ k, k < N → parseFieldDescriptor (T k).2.2.1 = some (ty0 k)) ∧ (∀ a, a < N → ∀ b, b < N → a ≠ b → (T a).2.1 ≠ (T b).2.1) ∧ df ci = (List.range N).map (fun j => defaultValue (ty0 j))
def iv_tyo (t : Int) (ty : FieldType) : Prop := (t = 0 ∧ ty = .int) ∨ (t = 1 ∧ ty = .long) ∨ (t = 2 ∧ ty = .boolean) ∨ (t = 3 ∧ ((∃ C, ty = .object C) ∨ ∃ u, ty = .array u))
/-- what an instruction of the heap takes out of the tables -/
def iv_hok (Ts : List Cond) (df : Nat → List Value) (own mn : String) (i : Instr) (a b : Nat) (sw : List (Int × Nat)) : Prop := match i with
  | .getfield x => ∃ C T N ty0, iv_cl Ts df a C T N ty0 ∧ b < N ∧ Cond.fieldLink own x (T b).1 (T b).2.1 (T b).2.2.1 ∈ Ts
  | .putfield x => ∃ C T N ty0, iv_cl Ts df a C T N ty0 ∧ b < N ∧ Cond.fieldLink own x (T b).1 (T b).2.1 (T b).2.2.1 ∈ Ts ∧ ((T b).2.2.2 = false ∨ ((T b).2.2.2 = true ∧ mn = "<init>" ∧ (T b).1 = own)) ∧ ∀ q r, sw = q :: r → iv_tyo q.1 (ty0 b)
  | .getstatic x => a = iv_big + 1 ∧ ∃ host, Cond.fieldLinkNest own x "WalkingRooms" "RANKS" "[I" host ∈ iv_nest
  | .newarray t => Cond.arrayClass (newarray.typeOf t) ∈ Ts
  | .anewarray x => Cond.classLink own x "WalkingRooms$House" ∈ Ts
  | .multianewarray x k => k = 2 ∧ Cond.classLink own x "[[I" ∈ Ts ∧ Cond.arrayClass .int ∈ Ts
  | .new x => ∃ C T N ty0, iv_cl Ts df a C T N ty0 ∧ Cond.classLink own x C ∈ Ts ∧ Cond.instantiable C N ∈ Ts ∧ Cond.initialized C ∈ Ts
  | .invokestatic x => (a = 9003 → Cond.methodLink own x arraycopyName ∈ Ts ∧ Cond.native arraycopyName ∈ Ts ∧ Cond.static arraycopyName ∈ Ts ∧ Cond.initialized "java/lang/System" ∈ Ts) ∧
    (a = 9004 → Cond.methodLink own x Lib.Math.min.name ∈ Ts ∧ Cond.static Lib.Math.min.name ∈ Ts ∧ Cond.initialized "java/lang/Math" ∈ Ts ∧ Cond.code Lib.Math.min.name Lib.Math.min.code 2 (some .int) ∈ Ts) ∧
    (a = 9005 → Cond.methodLink own x Lib.Math.max.name ∈ Ts ∧ Cond.static Lib.Math.max.name ∈ Ts ∧ Cond.initialized "java/lang/Math" ∈ Ts ∧ Cond.code Lib.Math.max.name Lib.Math.max.code 2 (some .int) ∈ Ts)
  | .invokespecial x => a = 9000 → Cond.methodLink own x Lib.objectInit ∈ Ts ∧ Cond.instanceMethod Lib.objectInit ∈ Ts ∧ Cond.code Lib.objectInit ⟨#[0xb1]⟩ 1 none ∈ Ts
  | _ => True
theorem iv_arr_ok {h : iv_H} {q : Nat} {x : Nat × Nat × iv_Y} (hq : iv_arr h q = some x) : (q < h.1 ∨ iv_big ≤ q) ∧ h.2.2 q = .inl x := by
  unfold iv_arr at hq
  split at hq
  · next hl =>
    split at hq
    · next y hy => cases hq; exact ⟨hl, hy⟩
    · cases hq
  · cases hq
theorem iv_obj_ok {h : iv_H} {q ci : Nat} {fs : List Value} (hq : iv_obj h q ci = some fs) : q < h.1 ∧ h.2.2 q = .inr (ci, fs) := by
  unfold iv_obj at hq
  split at hq
  · next hl =>
    split at hq
    · next c y hy =>
      split at hq
      · next e => subst e; cases hq; exact ⟨hl, hy⟩
      · cases hq
    · cases hq
  · cases hq
theorem iv_oub_ok {i : Int32} {n : Nat} (h : iv_oub i n = false) : vp_in i n := by
  unfold iv_oub at h
  simp only [Bool.or_eq_false_iff, decide_eq_false_iff_not] at h
  exact fun z => z.elim h.1 h.2
theorem iv_ad_own {S0 : Nat} {ex : Nat → Nat} {q : Nat} (h : q < iv_big) : iv_ad S0 ex q = S0 + q := if_pos h
theorem iv_ad_ex {S0 : Nat} {ex : Nat → Nat} {q : Nat} (h : iv_big ≤ q) : iv_ad S0 ex q = ex q := if_neg (Nat.not_lt.mpr h)
theorem iv_fit_ok {t : Int} {ty : FieldType} {v : Value} (ad : Nat → Nat) (h : iv_fit t v = true) (ht : iv_tyo t ty) : narrow ty (iv_tr ad v) = iv_tr ad v ∧ fits ty (iv_tr ad v) = true := by
  rcases ht with ⟨rfl, rfl⟩ | ⟨rfl, rfl⟩ | ⟨rfl, rfl⟩ | ⟨rfl, ⟨C, rfl⟩ | ⟨u, rfl⟩⟩ <;> cases v <;> simp [iv_fit] at h <;> (try subst h) <;> (try rcases h with rfl | rfl) <;> first | exact ⟨rfl, rfl⟩ | (refine ⟨?_, ?_⟩ <;> simp [iv_tr, narrow, fits]) | skip
