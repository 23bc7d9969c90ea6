-- WHAT MIRRORS ARE MADE OF, second part: reads
theorem iv_tb_of {a : Nat} {m : iv_I} {t : List iv_R} (h : iv_Z[a]? = some (m, t)) : iv_Tb a t := fun pc => by
  unfold PG
  dsimp only
  rw [h, Option.bind_some]
theorem iv_pi_of {a : Nat} {m : iv_I} {t : List iv_R} (h : iv_Z[a]? = some (m, t)) (ha : a < 9000) : PG.2 a = some m := by
  unfold PG
  dsimp only
  rw [if_neg (by omega), if_neg (by omega), h]
  rfl
theorem Rn.sw2 {d mi pc nx a b tg : Nat} {rt : Option FieldType} {L : iv_L} {st : List Value} {h : iv_H} {Q : Option Value → iv_H → Prop} {t : List iv_R} {i : Instr} {sw : List (Int × Nat)} {x : Int32} {st' : List Value} (hP : iv_Tb mi t) (hl : iv_lk pc t = some (i, nx, a, b, sw)) (hk : iv_kd i a = 5) (hst : st = .int x :: st') (hs : iv_sw sw a x = tg) (k : Rn d mi rt tg L st' h Q) : Rn d mi rt pc L st h Q := Rn.sw hP hl hk hst (by rw [hs]; exact k)
theorem Rn.pu {d mi pc nx a b : Nat} {rt : Option FieldType} {L : iv_L} {st st' : List Value} {h : iv_H} {Q : Option Value → iv_H → Prop} {t : List iv_R} {i : Instr} {sw : List (Int × Nat)} (hP : iv_Tb mi t) (hl : iv_lk pc t = some (i, nx, a, b, sw)) (hk : iv_kd i a = 0) (hs : iv_pur i a b sw st = some st') (k : Rn d mi rt nx L st' h Q) : Rn d mi rt pc L st h Q := by
  refine Rn.s (pc' := nx) (L' := L) (st' := st') (h1 := h) ?_ k
  unfold iv_s
  rw [hP pc, hl]
  dsimp only
  rw [hk]
  try dsimp only
  rw [hs]
  rfl
theorem gJ_hp {h : iv_H} {ci k q x : Nat} {sw : List (Int × Nat)} {v : Int64} {st : List Value} (e : gJ h ci k q = some v) : iv_hp iv_df (.getfield x) ci k sw (.ref q :: st) h = some (.long v :: st, h) := by
  unfold gJ at e
  obtain ⟨fs, h1, h2⟩ := Option.bind_eq_some_iff.mp e
  split at h2
  · next w hw =>
    cases h2
    show iv_get ci k (.ref q :: st) h = _
    unfold iv_get
    dsimp only
    rw [h1, Option.bind_some, hw, Option.bind_some]
  · cases h2
theorem gN_hp {h : iv_H} {ci k q x : Nat} {sw : List (Int × Nat)} {o : Option Nat} {st : List Value} (e : gN h ci k q = some o) : iv_hp iv_df (.getfield x) ci k sw (.ref q :: st) h = some (iv_rf o :: st, h) := by
  unfold gN at e
  obtain ⟨fs, h1, h2⟩ := Option.bind_eq_some_iff.mp e
  split at h2
  · next w hw =>
    cases h2
    show iv_get ci k (.ref q :: st) h = _
    unfold iv_get
    dsimp only
    rw [h1, Option.bind_some, hw, Option.bind_some]
    rfl
  · next hw =>
    cases h2
    show iv_get ci k (.ref q :: st) h = _
    unfold iv_get
    dsimp only
    rw [h1, Option.bind_some, hw, Option.bind_some]
    rfl
  · cases h2
/-- a byte, or a boolean, of an array -/
def aB (h : iv_H) (q : Nat) (i : Int32) : Option Int32 := (iv_arr h q).bind fun x => match x with
  | (k, n, .inl f) => if (k = 2 ∨ k = 3) ∧ q < h.1 ∧ iv_oub i n = false then some (f i.toNatClampNeg) else none
  | _ => none
theorem aB_hp {h : iv_H} {q a b : Nat} {i v : Int32} {sw : List (Int × Nat)} {st : List Value} (e : aB h q i = some v) : iv_hp iv_df .baload a b sw (.int i :: .ref q :: st) h = some (.int v :: st, h) := by
  unfold aB at e
  obtain ⟨x, h1, h2⟩ := Option.bind_eq_some_iff.mp e
  split at h2
  · next k n f =>
    split at h2
    · next hc =>
      cases h2
      show iv_ald 2 (.int i :: .ref q :: st) h = _
      unfold iv_ald
      dsimp only
      rw [h1, Option.bind_some]
      dsimp only
      rw [if_pos ⟨by rcases hc.1 with z | z; exact Or.inl z; exact Or.inr ⟨rfl, z, hc.2.1⟩, fun _ => hc.2.1, hc.2.2⟩]
    · cases h2
  · cases h2
def aJ (h : iv_H) (q : Nat) (i : Int32) : Option Int64 := (iv_arr h q).bind fun x => match x with
  | (k, n, .inr (.inl f)) => if k = 1 ∧ q < h.1 ∧ iv_oub i n = false then some (f i.toNatClampNeg) else none
  | _ => none
theorem aJ_hp {h : iv_H} {q a b : Nat} {i : Int32} {v : Int64} {sw : List (Int × Nat)} {st : List Value} (e : aJ h q i = some v) : iv_hp iv_df .laload a b sw (.int i :: .ref q :: st) h = some (.long v :: st, h) := by
  unfold aJ at e
  obtain ⟨x, h1, h2⟩ := Option.bind_eq_some_iff.mp e
  split at h2
  · next k n f =>
    split at h2
    · next hc =>
      cases h2
      show iv_jld (.int i :: .ref q :: st) h = _
      unfold iv_jld
      dsimp only
      rw [h1, Option.bind_some]
      dsimp only
      rw [if_pos hc]
    · cases h2
  · cases h2
def aN (h : iv_H) (q : Nat) (i : Int32) : Option (Option Nat) := (iv_arr h q).bind fun x => match x with
  | (k, n, .inr (.inr f)) => if (k = 4 ∨ k = 5) ∧ q < h.1 ∧ iv_oub i n = false then some (f i.toNatClampNeg) else none
  | _ => none
theorem aN_hp {h : iv_H} {q a b : Nat} {i : Int32} {o : Option Nat} {sw : List (Int × Nat)} {st : List Value} (e : aN h q i = some o) : iv_hp iv_df .aaload a b sw (.int i :: .ref q :: st) h = some (iv_rf o :: st, h) := by
  unfold aN at e
  obtain ⟨x, h1, h2⟩ := Option.bind_eq_some_iff.mp e
  split at h2
  · next k n f =>
    split at h2
    · next hc =>
      cases h2
      show iv_qld (.int i :: .ref q :: st) h = _
      unfold iv_qld
      dsimp only
      rw [h1, Option.bind_some]
      dsimp only
      rw [if_pos hc]
    · cases h2
  · cases h2
def aR (h : iv_H) (q : Nat) (i : Int32) : Option Nat := (aN h q i).bind id
theorem aR_hp {h : iv_H} {q a b v : Nat} {i : Int32} {sw : List (Int × Nat)} {st : List Value} (e : aR h q i = some v) : iv_hp iv_df .aaload a b sw (.int i :: .ref q :: st) h = some (.ref v :: st, h) := by
  obtain ⟨o, h1, h2⟩ := Option.bind_eq_some_iff.mp e
  have := aN_hp (a := a) (b := b) (sw := sw) (st := st) h1
  rw [show o = some v from h2] at this
  exact this
def aL (h : iv_H) (q : Nat) : Option Int32 := (iv_arr h q).bind fun z => if z.1 ≤ 5 ∧ (q < h.1 ∨ z.1 = 0) then some (Int32.ofNat z.2.1) else none
theorem aL_hp {h : iv_H} {q a b : Nat} {v : Int32} {sw : List (Int × Nat)} {st : List Value} (e : aL h q = some v) : iv_hp iv_df .arraylength a b sw (.ref q :: st) h = some (.int v :: st, h) := by
  unfold aL at e
  obtain ⟨x, h1, h2⟩ := Option.bind_eq_some_iff.mp e
  split at h2
  · next hc =>
    cases h2
    show iv_alen (.ref q :: st) h = _
    unfold iv_alen
    dsimp only
    rw [h1, Option.bind_some, if_pos hc]
  · cases h2
/-- the receiver of a call is an object of the class -/
def cko (h : iv_H) (q oc : Nat) : Option Unit := if (iv_obj h q oc).isSome = true then some () else none
theorem rcv_v {a oc n q x : Nat} {y : MethodName} {cc : ByteArray} {rt : Option FieldType} {vs : List Value} {h : iv_H} {u : Unit} (hP : PG.2 a = some (y, cc, n, rt, oc)) (ha : ¬ (a = 9001 ∨ a = 9002)) (h0 : cko h q oc = some u) : iv_rcv PG (.invokevirtual x) a (.ref q :: vs) h = true := by
  unfold cko at h0
  unfold iv_rcv
  dsimp only
  rw [if_neg ha, hP]
  dsimp only
  split at h0
  · next z => exact z
  · cases h0
/-- length and signs of a constant text -/
def sL (h : iv_H) (q : Nat) : Option Int32 := if iv_big ≤ q then (match h.2.2 q with
  | .inl (9, n, .inl _) => some (Int32.ofNat n)
  | _ => none) else none
def sA (h : iv_H) (q : Nat) (i : Int32) : Option Int32 := if iv_big ≤ q then (match h.2.2 q with
  | .inl (9, n, .inl f) => if iv_oub i n = false then some (f i.toNatClampNeg) else none
  | _ => none) else none
theorem sL_cl {d q : Nat} {h : iv_H} {v : Int32} {Q : Option Value → iv_H → Prop} (hd : 9 ≤ d) (e : sL h q = some v) (hq : Q (some (.int v)) h) : Cl d 9001 [.ref q] h Q := by
  obtain ⟨d, rfl⟩ : ∃ k, d = k + 1 := ⟨d - 1, by omega⟩
  refine ⟨0, some (.int v), h, ?_, hq⟩
  unfold iv_run
  rw [if_pos (Or.inl rfl), if_pos (by omega)]
  unfold sL at e
  unfold iv_str
  dsimp only
  split at e
  · next hb =>
    rw [if_pos hb]
    split at e
    · next n f hg =>
      cases e
      rw [hg]
      rfl
    · cases e
  · cases e
theorem sA_cl {d q : Nat} {h : iv_H} {i v : Int32} {Q : Option Value → iv_H → Prop} (hd : 9 ≤ d) (e : sA h q i = some v) (hq : Q (some (.int v)) h) : Cl d 9002 [.ref q, .int i] h Q := by
  obtain ⟨d, rfl⟩ : ∃ k, d = k + 1 := ⟨d - 1, by omega⟩
  refine ⟨0, some (.int v), h, ?_, hq⟩
  unfold iv_run
  rw [if_pos (Or.inr rfl), if_pos (by omega)]
  unfold sA at e
  unfold iv_str
  dsimp only
  split at e
  · next hb =>
    rw [if_pos hb]
    split at e
    · next n f hg =>
      split at e
      · next ho =>
        cases e
        rw [hg]
        show (if (9002 : Nat) = 9001 then none else if iv_oub i n = false then some (some (Value.int (f i.toNatClampNeg)), h) else none) = _
        rw [if_neg (by decide), if_pos ho]
      · cases e
    · cases e
  · cases e
