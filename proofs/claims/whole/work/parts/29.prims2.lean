-- WHAT MIRRORS ARE MADE OF, third part: writes, what is made, values that may be null
def pV (h : iv_H) (ci k q : Nat) (v : Value) : Option iv_H := (iv_obj h q ci).bind fun fs => if k < fs.length then some (h.1, h.2.1, iv_up h.2.2 q (.inr (ci, fs.set k v))) else none
theorem pV_hp {h h1 : iv_H} {ci k q x : Nat} {sw : List (Int × Nat)} {v : Value} {st : List Value} (hf : iv_ft sw v = true) (e : pV h ci k q v = some h1) : iv_hp iv_df (.putfield x) ci k sw (v :: .ref q :: st) h = some (st, h1) := by
  unfold pV at e
  obtain ⟨fs, h2, h3⟩ := Option.bind_eq_some_iff.mp e
  show iv_put ci k sw (v :: .ref q :: st) h = _
  unfold iv_put
  dsimp only
  rw [h2, Option.bind_some]
  split at h3
  · next hc => cases h3; rw [if_pos ⟨hc, hf⟩]
  · cases h3
theorem ft_rf {o : Option Nat} : iv_ft [(3, 0)] (iv_rf o) = true := by cases o <;> rfl
theorem ft_bl {x : Int32} (hx : x = 0 ∨ x = 1) : iv_ft [(2, 0)] (.int x) = true := by
  rcases hx with rfl | rfl <;> decide
def wI (h : iv_H) (q : Nat) (i x : Int32) : Option iv_H := (iv_arr h q).bind fun z => match z with
  | (k, n, .inl f) => if k = 0 ∧ q < h.1 ∧ iv_oub i n = false then some (h.1, h.2.1, iv_up h.2.2 q (.inl (0, n, .inl (upd f i.toNatClampNeg x)))) else none
  | _ => none
theorem wI_hp {h h1 : iv_H} {q a b : Nat} {i x : Int32} {sw : List (Int × Nat)} {st : List Value} (e : wI h q i x = some h1) : iv_hp iv_df .iastore a b sw (.int x :: .int i :: .ref q :: st) h = some (st, h1) := by
  unfold wI at e
  obtain ⟨z, h2, h3⟩ := Option.bind_eq_some_iff.mp e
  show iv_ias (.int x :: .int i :: .ref q :: st) h = _
  unfold iv_ias
  dsimp only
  rw [h2, Option.bind_some]
  split at h3
  · next k n f =>
    split at h3
    · next hc => cases h3; dsimp only; rw [if_pos hc]
    · cases h3
  · cases h3
def wB (h : iv_H) (q : Nat) (i x : Int32) : Option iv_H := (iv_arr h q).bind fun z => match z with
  | (k, n, .inl f) => if (k = 2 ∨ k = 3) ∧ q < h.1 ∧ iv_oub i n = false then some (h.1, h.2.1, iv_up h.2.2 q (.inl (k, n, .inl (upd f i.toNatClampNeg (vp_nar (if k = 2 then .byte else .boolean) x))))) else none
  | _ => none
theorem wB_hp {h h1 : iv_H} {q a b : Nat} {i x : Int32} {sw : List (Int × Nat)} {st : List Value} (e : wB h q i x = some h1) : iv_hp iv_df .bastore a b sw (.int x :: .int i :: .ref q :: st) h = some (st, h1) := by
  unfold wB at e
  obtain ⟨z, h2, h3⟩ := Option.bind_eq_some_iff.mp e
  show iv_bas (.int x :: .int i :: .ref q :: st) h = _
  unfold iv_bas
  dsimp only
  rw [h2, Option.bind_some]
  split at h3
  · next k n f =>
    split at h3
    · next hc => cases h3; dsimp only; rw [if_pos hc]
    · cases h3
  · cases h3
def wJ (h : iv_H) (q : Nat) (i : Int32) (x : Int64) : Option iv_H := (iv_arr h q).bind fun z => match z with
  | (k, n, .inr (.inl f)) => if k = 1 ∧ q < h.1 ∧ iv_oub i n = false then some (h.1, h.2.1, iv_up h.2.2 q (.inl (1, n, .inr (.inl (vp_updL f i.toNatClampNeg x))))) else none
  | _ => none
theorem wJ_hp {h h1 : iv_H} {q a b : Nat} {i : Int32} {x : Int64} {sw : List (Int × Nat)} {st : List Value} (e : wJ h q i x = some h1) : iv_hp iv_df .lastore a b sw (.long x :: .int i :: .ref q :: st) h = some (st, h1) := by
  unfold wJ at e
  obtain ⟨z, h2, h3⟩ := Option.bind_eq_some_iff.mp e
  show iv_jas (.long x :: .int i :: .ref q :: st) h = _
  unfold iv_jas
  dsimp only
  rw [h2, Option.bind_some]
  split at h3
  · next k n f =>
    split at h3
    · next hc => cases h3; dsimp only; rw [if_pos hc]
    · cases h3
  · cases h3
def wQ (h : iv_H) (q : Nat) (i : Int32) (v : Nat) : Option iv_H := (iv_arr h q).bind fun z => match z with
  | (k, n, .inr (.inr f)) => (iv_obj h v 2).bind fun _ => if k = 4 ∧ q < h.1 ∧ iv_oub i n = false then some (h.1, h.2.1, iv_up h.2.2 q (.inl (4, n, .inr (.inr (va_up f i.toNatClampNeg (some v)))))) else none
  | _ => none
theorem wQ_hp {h h1 : iv_H} {q v a b : Nat} {i : Int32} {sw : List (Int × Nat)} {st : List Value} (e : wQ h q i v = some h1) : iv_hp iv_df .aastore a b sw (.ref v :: .int i :: .ref q :: st) h = some (st, h1) := by
  unfold wQ at e
  obtain ⟨z, h2, h3⟩ := Option.bind_eq_some_iff.mp e
  show iv_qas (.ref v :: .int i :: .ref q :: st) h = _
  unfold iv_qas
  dsimp only
  rw [h2, Option.bind_some]
  split at h3
  · next k n f =>
    obtain ⟨y, h4, h5⟩ := Option.bind_eq_some_iff.mp h3
    split at h5
    · next hc => cases h5; dsimp only; rw [h4, Option.bind_some, if_pos hc]
    · cases h5
  · cases h3
def nA (h : iv_H) (k : Nat) (n : Int32) : Option (Nat × iv_H) := if ¬ n < 0 ∧ n.toNatClampNeg ≤ 1000000 ∧ h.1 < iv_big then some (h.1, (h.1 + 1, h.2.1 + n.toNatClampNeg, iv_up h.2.2 h.1 (.inl (k, n.toNatClampNeg, iv_z k)))) else none
theorem nA_hp {h h1 : iv_H} {k q a b : Nat} {t : ArrayType} {n : Int32} {sw : List (Int × Nat)} {st : List Value} (ht : iv_at t = some k) (e : nA h k n = some (q, h1)) : iv_hp iv_df (.newarray t) a b sw (.int n :: st) h = some (.ref q :: st, h1) := by
  unfold nA at e
  show (iv_at t).bind (fun k => iv_mka k (.int n :: st) h) = _
  rw [ht, Option.bind_some]
  unfold iv_mka
  dsimp only
  split at e
  · next hc => cases e; rw [if_pos hc]
  · cases e
theorem nQ_hp {h h1 : iv_H} {q b x : Nat} {n : Int32} {sw : List (Int × Nat)} {st : List Value} (e : nA h 4 n = some (q, h1)) : iv_hp iv_df (.anewarray x) 2 b sw (.int n :: st) h = some (.ref q :: st, h1) := by
  unfold nA at e
  show (if (2 : Nat) = 2 then iv_mka 4 (.int n :: st) h else none) = _
  rw [if_pos rfl]
  unfold iv_mka
  dsimp only
  split at e
  · next hc => cases e; rw [if_pos hc]
  · cases e
def nM (h : iv_H) (n k : Int32) : Option (Nat × iv_H) := (iv_mkm [.int k, .int n] h).map (fun z => (h.1, z.2))
theorem nM_hp {h h1 : iv_H} {q a b x y : Nat} {n k : Int32} {sw : List (Int × Nat)} {st : List Value} (e : nM h n k = some (q, h1)) : iv_hp iv_df (.multianewarray x y) a b sw (.int k :: .int n :: st) h = some (.ref q :: st, h1) := by
  unfold nM at e
  show iv_mkm (.int k :: .int n :: st) h = _
  unfold iv_mkm at e ⊢
  dsimp only at e ⊢
  split at e
  · next hc => cases e; rw [if_pos hc]
  · cases e
def nO (h : iv_H) (a : Nat) : Option (Nat × iv_H) := if h.1 < iv_big then some (h.1, (h.1 + 1, h.2.1 + (iv_df a).length, iv_up h.2.2 h.1 (.inr (a, iv_df a)))) else none
theorem nO_hp {h h1 : iv_H} {q a b x : Nat} {sw : List (Int × Nat)} {st : List Value} (e : nO h a = some (q, h1)) : iv_hp iv_df (.new x) a b sw st h = some (.ref q :: st, h1) := by
  unfold nO at e
  show iv_new iv_df a st h = _
  unfold iv_new
  split at e
  · next hc => cases e; rw [if_pos hc]
  · cases e
/-- System.arraycopy -/
def cpA (h : iv_H) (q0 : Nat) (sp : Int32) (q1 : Nat) (dp n : Int32) : Option iv_H := (iv_cpy [.int n, .int dp, .ref q1, .int sp, .ref q0] h).map (fun z => z.2)
theorem cpA_hp {h h1 : iv_H} {q0 q1 b x : Nat} {sp dp n : Int32} {sw : List (Int × Nat)} {st : List Value} (hr : (st.map fun v => v.category).sum ≤ 8) (e : cpA h q0 sp q1 dp n = some h1) : iv_hp iv_df (.invokestatic x) 9003 b sw (.int n :: .int dp :: .ref q1 :: .int sp :: .ref q0 :: st) h = some (st, h1) := by
  unfold cpA at e
  obtain ⟨z, h2, h3⟩ := Option.map_eq_some_iff.mp e
  show iv_cpy (.int n :: .int dp :: .ref q1 :: .int sp :: .ref q0 :: st) h = _
  unfold iv_cpy at h2 ⊢
  dsimp only at h2 ⊢
  obtain ⟨x1, h4, h5⟩ := Option.bind_eq_some_iff.mp h2
  obtain ⟨y1, h6, h7⟩ := Option.bind_eq_some_iff.mp h5
  rw [h4, Option.bind_some, h6, Option.bind_some]
  split at h7
  · split at h7
    · next hc => cases h7; cases h3; dsimp only; rw [if_pos ⟨hc.1, hc.2.1, hc.2.2.1, hc.2.2.2.1, hc.2.2.2.2.1, hr⟩]
    · cases h7
  · split at h7
    · next hc => cases h7; cases h3; dsimp only; rw [if_pos ⟨hc.1, hc.2.1, hc.2.2.1, hc.2.2.2.1, hc.2.2.2.2.1, hr⟩]
    · cases h7
  · cases h7
/-- one instruction of the locals -/
theorem Rn.lo {d mi pc nx a b : Nat} {rt : Option FieldType} {L L' : iv_L} {st st' : List Value} {h : iv_H} {Q : Option Value → iv_H → Prop} {t : List iv_R} {i : Instr} {sw : List (Int × Nat)} (hP : iv_Tb mi t) (hl : iv_lk pc t = some (i, nx, a, b, sw)) (hk : iv_kd i a = 1) (hs : iv_loc i L st = some (L', st')) (k : Rn d mi rt nx L' st' h Q) : Rn d mi rt pc L st h Q := by
  refine Rn.s (pc' := nx) (L' := L') (st' := st') (h1 := h) ?_ k
  unfold iv_s
  rw [hP pc, hl]
  dsimp only
  rw [hk]
  try dsimp only
  rw [hs]
  rfl
theorem ldN {L : iv_L} {k : Fin 4} {o : Option Nat} {st : List Value} (hL : L[k.val]? = some (some (iv_rf o))) : iv_loc (.aload_n k) L st = some (L, iv_rf o :: st) := by
  show iv_ldA L k st = _
  unfold iv_ldA
  rw [hL]
  cases o <;> rfl
theorem ldN' {L : iv_L} {k : Nat} {o : Option Nat} {st : List Value} (hL : L[k]? = some (some (iv_rf o))) : iv_loc (.aload k) L st = some (L, iv_rf o :: st) := by
  show iv_ldA L k st = _
  unfold iv_ldA
  rw [hL]
  cases o <;> rfl
theorem Rn.retN {d mi pc nx a b : Nat} {oc : FieldType} {rt : Option FieldType} {L : iv_L} {h : iv_H} {Q : Option Value → iv_H → Prop} {t : List iv_R} {sw : List (Int × Nat)} {o : Option Nat} (hP : iv_Tb mi t) (hl : iv_lk pc t = some (.areturn, nx, a, b, sw)) (hrt : rt = some (.array oc)) (k : Q (some (iv_rf o)) h) : Rn d mi rt pc L [iv_rf o] h Q := by
  subst hrt
  cases o with
  | none => exact Rn.ret hP hl rfl rfl k
  | some q => exact Rn.ret hP hl rfl rfl k
def iv_mn (x y : Int32) : Int32 := if y < x then y else x
def iv_mx (x y : Int32) : Int32 := if x < y then y else x
theorem mn_hp {h : iv_H} {b z : Nat} {x y : Int32} {sw : List (Int × Nat)} {st : List Value} (hr : (st.map fun v => v.category).sum ≤ 8) : iv_hp iv_df (.invokestatic z) 9004 b sw (.int y :: .int x :: st) h = some (.int (iv_mn x y) :: st, h) := by
  show iv_mm false (.int y :: .int x :: st) h = _
  unfold iv_mm
  dsimp only
  rw [if_pos hr]
  rfl
theorem mx_hp {h : iv_H} {b z : Nat} {x y : Int32} {sw : List (Int × Nat)} {st : List Value} (hr : (st.map fun v => v.category).sum ≤ 8) : iv_hp iv_df (.invokestatic z) 9005 b sw (.int y :: .int x :: st) h = some (.int (iv_mx x y) :: st, h) := by
  show iv_mm true (.int y :: .int x :: st) h = _
  unfold iv_mm
  dsimp only
  rw [if_pos hr]
  rfl
