-- RULES OF RUNS by a method's own table
abbrev iv_Tb (mi : Nat) (t : List iv_R) : Prop := ∀ pc, PG.1 mi pc = iv_lk pc t
/-- one instruction of the stack, of the locals, a goto -/
def iv_t1 (t : List iv_R) (pc : Nat) (L : iv_L) (st : List Value) : Option (Nat × iv_L × List Value) := match iv_lk pc t with
  | none => none
  | some (i, nx, a, b, sw) => match iv_kd i a with
    | 0 => (iv_pur i a b sw st).bind fun st' => some (nx, L, st')
    | 1 => (iv_loc i L st).bind fun q => some (nx, q.1, q.2)
    | 4 => some (a, L, st)
    | _ => none
def iv_tn (t : List iv_R) : Nat → Nat → iv_L → List Value → Option (Nat × iv_L × List Value)
  | 0, pc, L, st => some (pc, L, st)
  | n + 1, pc, L, st => match iv_t1 t pc L st with
    | none => none
    | some (pc', L', st') => iv_tn t n pc' L' st'
section RU
variable {d mi pc nx : Nat} {rt : Option FieldType} {L : iv_L} {st : List Value} {h : iv_H} {Q : Option Value → iv_H → Prop} {t : List iv_R}
theorem iv_t1_s {pc' : Nat} {L' : iv_L} {st' : List Value} (hP : iv_Tb mi t) (hs : iv_t1 t pc L st = some (pc', L', st')) : iv_s mi pc L st h = some (pc', L', st', h) := by
  unfold iv_t1 at hs
  unfold iv_s
  rw [hP pc]
  split at hs
  · cases hs
  · next i nx a b sw hf =>
    try rw [hf]
    try dsimp only
    split at hs
    · next hk =>
      try simp only [hk]
      obtain ⟨q, hq, hs⟩ := Option.bind_eq_some_iff.mp hs
      cases hs
      try dsimp only
      rw [hq, Option.bind_some]
    · next hk =>
      try simp only [hk]
      obtain ⟨q, hq, hs⟩ := Option.bind_eq_some_iff.mp hs
      cases hs
      try dsimp only
      rw [hq, Option.bind_some]
    · next hk => (try simp only [hk]); cases hs; rfl
    · cases hs
theorem Rn.n (hP : iv_Tb mi t) : ∀ (n : Nat) {pc pc' : Nat} {L L' : iv_L} {st st' : List Value}, iv_tn t n pc L st = some (pc', L', st') → Rn d mi rt pc' L' st' h Q → Rn d mi rt pc L st h Q := by
  intro n
  induction n with
  | zero => intro pc pc' L L' st st' hs k; cases hs; exact k
  | succ n ih =>
    intro pc pc' L L' st st' hs k
    unfold iv_tn at hs
    split at hs
    · cases hs
    · next pc1 L1 st1 h1 => exact Rn.s (iv_t1_s hP h1) (ih hs k)
theorem Rn.br {i : Instr} {a b : Nat} {sw : List (Int × Nat)} {st' : List Value} {g : Bool} (hP : iv_Tb mi t) (hl : iv_lk pc t = some (i, nx, a, b, sw)) (hk : iv_kd i a = 2) (hb : iv_br i st = some (g, st')) (k1 : g = true → Rn d mi rt a L st' h Q) (k2 : g = false → Rn d mi rt nx L st' h Q) : Rn d mi rt pc L st h Q := by
  cases hg : g
  · refine Rn.s (pc' := nx) (L' := L) (st' := st') (h1 := h) ?_ (k2 hg)
    unfold iv_s
    rw [hP pc, hl]
    try dsimp only
    try simp only [hk]
    try dsimp only
    rw [hb, hg]
    rfl
  · refine Rn.s (pc' := a) (L' := L) (st' := st') (h1 := h) ?_ (k1 hg)
    unfold iv_s
    rw [hP pc, hl]
    try dsimp only
    try simp only [hk]
    try dsimp only
    rw [hb, hg]
    rfl
theorem Rn.hp {i : Instr} {a b : Nat} {sw : List (Int × Nat)} {st' : List Value} {h1 : iv_H} (hP : iv_Tb mi t) (hl : iv_lk pc t = some (i, nx, a, b, sw)) (hk : iv_kd i a = 3) (hb : iv_hp iv_df i a b sw st h = some (st', h1)) (k : Rn d mi rt nx L st' h1 Q) : Rn d mi rt pc L st h Q := by
  refine Rn.s (pc' := nx) (L' := L) (st' := st') (h1 := h1) ?_ k
  unfold iv_s
  rw [hP pc, hl]
  try dsimp only
  try simp only [hk]
  try dsimp only
  rw [hb]
  rfl
theorem Rn.sw {i : Instr} {a b : Nat} {sw : List (Int × Nat)} {x : Int32} {st' : List Value} (hP : iv_Tb mi t) (hl : iv_lk pc t = some (i, nx, a, b, sw)) (hk : iv_kd i a = 5) (hst : st = .int x :: st') (k : Rn d mi rt (iv_sw sw a x) L st' h Q) : Rn d mi rt pc L st h Q := by
  subst hst
  refine Rn.s (pc' := iv_sw sw a x) (L' := L) (st' := st') (h1 := h) ?_ k
  unfold iv_s
  rw [hP pc, hl]
  try dsimp only
  try simp only [hk]
theorem Rn.ret {i : Instr} {a b : Nat} {sw : List (Int × Nat)} {r : Option Value} (hP : iv_Tb mi t) (hl : iv_lk pc t = some (i, nx, a, b, sw)) (hk : iv_kd i a = 7) (hr : iv_ret i rt st h = some (r, h)) (k : Q r h) : Rn d mi rt pc L st h Q := by
  refine ⟨1, r, h, ?_, k⟩
  rw [iv_ex, hP pc, hl]
  try dsimp only
  try simp only [hk]
  exact hr
theorem Rn.call {i : Instr} {a b : Nat} {sw : List (Int × Nat)} {vs rest : List Value} (hP : iv_Tb mi t) (hl : iv_lk pc t = some (i, nx, a, b, sw)) (hk : iv_kd i a = 6) (hp : iv_pop b st [] = some (vs, rest)) (h8 : (rest.map fun v => v.category).sum ≤ 8) (hrc : iv_rcv PG i a vs h = true) (hc : Cl d a vs h (fun r h1 => Rn d mi rt nx L (r.toList ++ rest) h1 Q)) : Rn d mi rt pc L st h Q := by
  obtain ⟨F, r, h1, e1, F2, r2, h2, e2, q⟩ := hc
  refine ⟨F + F2 + 1, r2, h2, ?_, q⟩
  rw [iv_ex, hP pc, hl]
  try dsimp only
  try simp only [hk]
  try dsimp only
  rw [hp, Option.bind_some, if_pos ⟨h8, hrc⟩, iv_run_le d d F (F + F2 + 1) (Nat.le_refl _) (by omega) _ _ _ _ e1, Option.bind_some]
  exact iv_ex_le (iv_run_le d d F2 (F + F2 + 1) (Nat.le_refl _) (by omega)) _ _ _ _ _ _ _ (by omega) e2
end RU
/-- what the mirrors read and write -/
def gI (h : iv_H) (ci k q : Nat) : Option Int32 := (iv_obj h q ci).bind fun fs => match fs[k]? with
  | some (.int v) => some v
  | _ => none
def gJ (h : iv_H) (ci k q : Nat) : Option Int64 := (iv_obj h q ci).bind fun fs => match fs[k]? with
  | some (.long v) => some v
  | _ => none
def gR (h : iv_H) (ci k q : Nat) : Option Nat := (iv_obj h q ci).bind fun fs => match fs[k]? with
  | some (.ref v) => some v
  | _ => none
def gN (h : iv_H) (ci k q : Nat) : Option (Option Nat) := (iv_obj h q ci).bind fun fs => match fs[k]? with
  | some (.ref v) => some (some v)
  | some .null => some none
  | _ => none
def aI (h : iv_H) (q : Nat) (i : Int32) : Option Int32 := (iv_arr h q).bind fun x => match x with
  | (k, n, .inl f) => if k = 0 ∧ iv_oub i n = false then some (f i.toNatClampNeg) else none
  | _ => none
theorem gI_hp {h : iv_H} {ci k q x : Nat} {sw : List (Int × Nat)} {v : Int32} {st : List Value} (e : gI h ci k q = some v) : iv_hp iv_df (.getfield x) ci k sw (.ref q :: st) h = some (.int v :: st, h) := by
  unfold gI at e
  obtain ⟨fs, h1, h2⟩ := Option.bind_eq_some_iff.mp e
  split at h2
  · next w hw =>
    cases h2
    show iv_get ci k (.ref q :: st) h = _
    unfold iv_get
    try dsimp only
    rw [h1, Option.bind_some, hw, Option.bind_some]
  · cases h2
theorem gR_hp {h : iv_H} {ci k q x v : Nat} {sw : List (Int × Nat)} {st : List Value} (e : gR h ci k q = some v) : iv_hp iv_df (.getfield x) ci k sw (.ref q :: st) h = some (.ref v :: st, h) := by
  unfold gR at e
  obtain ⟨fs, h1, h2⟩ := Option.bind_eq_some_iff.mp e
  split at h2
  · next w hw =>
    cases h2
    show iv_get ci k (.ref q :: st) h = _
    unfold iv_get
    try dsimp only
    rw [h1, Option.bind_some, hw, Option.bind_some]
  · cases h2
theorem aI_hp {h : iv_H} {q a b : Nat} {i v : Int32} {sw : List (Int × Nat)} {st : List Value} (e : aI h q i = some v) : iv_hp iv_df .iaload a b sw (.int i :: .ref q :: st) h = some (.int v :: st, h) := by
  unfold aI at e
  obtain ⟨x, h1, h2⟩ := Option.bind_eq_some_iff.mp e
  split at h2
  · next k n f =>
    split at h2
    · next hc =>
      cases h2
      show iv_ald 0 (.int i :: .ref q :: st) h = _
      unfold iv_ald
      try dsimp only
      rw [h1, Option.bind_some]
      try dsimp only
      rw [if_pos ⟨Or.inl hc.1, fun z => absurd z (by decide), hc.2⟩]
    · cases h2
  · cases h2
