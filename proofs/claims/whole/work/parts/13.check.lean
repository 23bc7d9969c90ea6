-- A ROW OF THE CODE, CHECKED BY COUNTING
def iv_atb (i : Nat) (w : Cond) : Bool := decide (lw_tbl[i]? = some w) && goodWord w
theorem iv_atb_ok {i : Nat} {w : Cond} (h : iv_atb i w = true) : w ∈ lw_g := by
  unfold iv_atb at h
  rw [Bool.and_eq_true] at h
  exact List.mem_filter.mpr ⟨List.mem_of_getElem? (of_decide_eq_true h.1), h.2⟩
/-- jumps -/
def iv_cj (pc : Nat) (i : Instr) (a : Nat) : Bool := match i with
  | .goto o => decide ((pc : Int) + o = (a : Int))
  | .ifnull o => decide ((pc : Int) + o = (a : Int))
  | .ifnonnull o => decide ((pc : Int) + o = (a : Int))
  | .if_icmp _ o => decide ((pc : Int) + o = (a : Int))
  | .ifCond _ o => decide ((pc : Int) + o = (a : Int))
  | _ => true
theorem iv_cj_ok {pc a : Nat} {i : Instr} (h : iv_cj pc i a = true) : ∀ off, (i = .goto off ∨ i = .ifnull off ∨ i = .ifnonnull off ∨ (∃ q, i = .if_icmp q off) ∨ ∃ q, i = .ifCond q off) → (pc : Int) + off = (a : Int) := by
  intro off ho
  rcases ho with rfl | rfl | rfl | ⟨q, rfl⟩ | ⟨q, rfl⟩ <;> exact of_decide_eq_true h
/-- switches -/
def iv_cst (pc : Nat) : Int → List Int → List (Int × Nat) → Bool
  | _, [], [] => true
  | k, o :: os, q :: qs => decide (q.1 = k) && decide ((pc : Int) + o = (q.2 : Int)) && iv_cst pc (k + 1) os qs
  | _, _, _ => false
def iv_csl (pc : Nat) : List (Int × Int) → List (Int × Nat) → Bool
  | [], [] => true
  | p :: ps, q :: qs => decide (p.1 = q.1) && decide (-2147483648 ≤ p.1 ∧ p.1 < 2147483648) && decide ((pc : Int) + p.2 = (q.2 : Int)) && iv_csl pc ps qs
  | _, _ => false
def iv_cs (pc : Nat) (i : Instr) (a : Nat) (sw : List (Int × Nat)) : Bool := match i with
  | .tableswitch d lo hi offs => decide ((pc : Int) + d = (a : Int)) && decide (-2147483648 ≤ lo ∧ hi < 2147483648) && decide ((offs.toList.length : Int) = hi + 1 - lo) && iv_cst pc lo offs.toList sw
  | .lookupswitch d ps => decide ((pc : Int) + d = (a : Int)) && (ps.toList.zip (ps.toList.drop 1)).all (fun (a, next) => a.1 < next.1) && iv_csl pc ps.toList sw
  | _ => true
theorem iv_o32 {z : Int} (h1 : -2147483648 ≤ z) (h2 : z < 2147483648) : (Int32.ofInt z).toInt = z := Int32.toInt_ofInt_of_le h1 (by omega)
theorem iv_x32 {x : Int32} {z : Int} (h1 : -2147483648 ≤ z) (h2 : z < 2147483648) : x = Int32.ofInt z ↔ x.toInt = z := by
  constructor
  · rintro rfl; exact iv_o32 h1 h2
  · intro h; exact Int32.toInt_inj.mp (h.trans (iv_o32 h1 h2).symm)
theorem iv_cst_ok {pc a : Nat} {x : Int32} : ∀ (offs : List Int) (sw : List (Int × Nat)) (lo : Int), iv_cst pc lo offs sw = true → -2147483648 ≤ lo → lo + offs.length ≤ 2147483648 → (x.toInt < lo ∨ lo + offs.length ≤ x.toInt → iv_sw sw a x = a) ∧ (lo ≤ x.toInt → x.toInt < lo + offs.length → ∃ off, offs[(x.toInt - lo).toNat]? = some off ∧ (pc : Int) + off = (iv_sw sw a x : Nat)) := by
  intro offs
  induction offs with
  | nil =>
    intro sw lo h _ _
    cases sw with
    | nil => exact ⟨fun _ => rfl, fun h1 h2 => by simp at h2; omega⟩
    | cons q qs => cases h
  | cons o os ih =>
    intro sw lo h hlo hhi
    cases sw with
    | nil => cases h
    | cons q qs =>
      unfold iv_cst at h
      simp only [Bool.and_eq_true, decide_eq_true_eq] at h
      obtain ⟨⟨h1, h2⟩, h3⟩ := h
      simp only [List.length_cons, Int.natCast_add, Int.natCast_one] at hhi ⊢
      obtain ⟨i1, i2⟩ := ih qs (lo + 1) h3 (by omega) (by omega)
      have e : x = Int32.ofInt q.1 ↔ x.toInt = lo := by rw [h1]; exact iv_x32 hlo (by omega)
      unfold iv_sw
      refine ⟨fun hc => ?_, fun hc1 hc2 => ?_⟩
      · rw [if_neg (fun z => by have := e.mp z; omega)]
        exact i1 (by omega)
      · by_cases hx : x.toInt = lo
        · rw [if_pos (e.mpr hx), hx, Int.sub_self]
          exact ⟨o, rfl, h2⟩
        · rw [if_neg (fun z => hx (e.mp z))]
          obtain ⟨off, g1, g2⟩ := i2 (by omega) (by omega)
          refine ⟨off, ?_, g2⟩
          rw [show (x.toInt - lo).toNat = (x.toInt - (lo + 1)).toNat + 1 by omega]
          exact g1
theorem iv_csl_ok {pc a : Nat} {d : Int} {x : Int32} (hd : (pc : Int) + d = (a : Int)) : ∀ (ps : List (Int × Int)) (sw : List (Int × Nat)), iv_csl pc ps sw = true → (pc : Int) + Op.lookupswitch.offset ps d x.toInt = (iv_sw sw a x : Nat) := by
  intro ps
  induction ps with
  | nil =>
    intro sw h
    cases sw with
    | nil => exact hd
    | cons q qs => cases h
  | cons p ps ih =>
    intro sw h
    cases sw with
    | nil => cases h
    | cons q qs =>
      unfold iv_csl at h
      simp only [Bool.and_eq_true, decide_eq_true_eq] at h
      obtain ⟨⟨⟨h1, h2⟩, h3⟩, h4⟩ := h
      have e : x = Int32.ofInt q.1 ↔ x.toInt = p.1 := by rw [← h1]; exact iv_x32 h2.1 h2.2
      obtain ⟨k, o⟩ := p
      rw [Op.lookupswitch.offset_cons]
      unfold iv_sw
      by_cases hx : x.toInt = k
      · rw [if_pos (e.mpr hx), if_pos hx.symm]; exact h3
      · rw [if_neg (fun z => hx (e.mp z)), if_neg (fun z => hx z.symm)]; exact ih qs h4
theorem iv_cs_ok {pc a : Nat} {i : Instr} {sw : List (Int × Nat)} (h : iv_cs pc i a sw = true) : iv_swk pc i a sw := by
  unfold iv_cs at h
  unfold iv_swk
  cases i <;> try trivial
  case tableswitch d lo hi offs =>
    simp only [Bool.and_eq_true, decide_eq_true_eq] at h
    obtain ⟨⟨⟨h1, h2⟩, h3⟩, h4⟩ := h
    intro x
    obtain ⟨i1, i2⟩ := iv_cst_ok (a := a) (x := x) _ _ _ h4 h2.1 (by omega)
    refine ⟨fun hc => ?_, fun c1 c2 => ?_⟩
    · rw [i1 (by omega)]; exact h1
    · obtain ⟨off, g1, g2⟩ := i2 (by omega) (by omega)
      exact ⟨off, by rw [← Array.getElem?_toList]; exact g1, g2⟩
  case lookupswitch d ps =>
    simp only [Bool.and_eq_true, decide_eq_true_eq] at h
    obtain ⟨⟨h1, h2⟩, h3⟩ := h
    exact ⟨h2, fun x => iv_csl_ok h1 _ _ h3⟩
/-- links -/
def iv_ck (oc : Nat) (mi : Bool) (i : Instr) (a b : Nat) (sw : List (Int × Nat)) : Bool := match i with
  | .ldc x => if b = 1 then decide (iv_big ≤ a) && iv_SX.any (fun e => e == (oc, x, a)) else (match sw with
    | [q] => iv_KI.any (fun e => e.2 == (oc, x, q.1))
    | _ => false)
  | .ldc_w x => if b = 1 then decide (iv_big ≤ a) && iv_SX.any (fun e => e == (oc, x, a)) else (match sw with
    | [q] => iv_KI.any (fun e => e.2 == (oc, x, q.1))
    | _ => false)
  | .ldc2_w x => (match sw with
    | [q] => iv_KJ.any (fun e => e.2 == (oc, x, q.1))
    | _ => false)
  | .getfield x => iv_FL.any (fun e => e.2 == (oc, x, a, b))
  | .putfield x => iv_FL.any (fun e => e.2 == (oc, x, a, b)) && (match sw with
    | [q] => iv_PF.any (fun e => e == (a, b, q.1.toNat, 0) || (e == (a, b, q.1.toNat, 1) && mi && decide (oc = a))) && decide (0 ≤ q.1)
    | _ => false)
  | .getstatic x => decide (a = iv_big + 1 ∧ oc = 8 ∧ x = 155)
  | .new x => iv_CL.any (fun e => decide (e.2.1 = oc ∧ e.2.2.1 = x ∧ e.2.2.2 = iv_cn a)) && decide (a < 13)
  | .anewarray x => iv_CL.any (fun e => decide (e.2.1 = oc ∧ e.2.2.1 = x ∧ e.2.2.2 = "WalkingRooms$House"))
  | .multianewarray x k => decide (k = 2) && iv_CL.any (fun e => decide (e.2.1 = oc ∧ e.2.2.1 = x ∧ e.2.2.2 = "[[I"))
  | .newarray t => (iv_at t).isSome
  | .invokevirtual x => iv_ML.any (fun e => e.2 == (oc, x, a, b - 1, 0, 0)) && decide (1 ≤ b)
  | .invokespecial x => (iv_ML.any (fun e => e.2 == (oc, x, a, b - 1, 0, 1)) || iv_ML.any (fun e => e.2 == (oc, x, a, b - 1, 1, 1))) && decide (1 ≤ b)
  | .invokestatic x => iv_ML.any (fun e => e.2 == (oc, x, a, b, 0, 2))
  | _ => true
def iv_chk (m : iv_I) (r : iv_R) : Bool := decide (decode m.2.1 r.1 = .ok (r.2.1, r.2.2.1 - r.1)) && decide (r.1 ≤ r.2.2.1) && (decide (iv_kd r.2.1 r.2.2.2.1 = 5) || decide (r.2.2.1 - r.1 = iv_len r.2.1)) && iv_cj r.1 r.2.1 r.2.2.2.1 && iv_cs r.1 r.2.1 r.2.2.2.1 r.2.2.2.2.2 && iv_ck m.2.2.2.2 (decide (m.1.name = "<init>")) r.2.1 r.2.2.2.1 r.2.2.2.2.1 r.2.2.2.2.2
