-- new int[n][k] ON THE MACHINE: the outer array, then row by row
/-- a row of zeros; the outer array when j of its rows stand -/
def gd_row (cI : ClassId) (M : Nat) : Cell := { cls := cI, slots := Array.replicate M (.int 0), vm := .none }
def gd_out (cA : ClassId) (N a0 : Nat) : Nat → Cell
  | 0 => { cls := cA, slots := Array.replicate N .null, vm := .none }
  | j + 1 => (gd_out cA N a0 j).setSlot j (.ref (a0 + 1 + j))
/-- the machine when j rows stand -/
def gd_st (U : State) (cA cI : ClassId) (N M : Nat) : Nat → State
  | 0 => U.pushCell (gd_out cA N U.heap.size 0)
  | j + 1 => ((gd_st U cA cI N M j).pushCell (gd_row cI M)).setCell U.heap.size (gd_out cA N U.heap.size (j + 1))
theorem gd_out_is (cA : ClassId) (N a0 : Nat) : ∀ j, gd_out cA N a0 j = arrV cA N (fun i => va_rf (if i < j then some (a0 + 1 + i) else none))
  | 0 => by
    show ({ cls := cA, slots := Array.replicate N .null, vm := .none } : Cell) = _
    rw [arrV_new]
    refine congrArg (arrV cA N) (funext fun i => ?_)
    rw [if_neg (Nat.not_lt_zero i)]
    rfl
  | j + 1 => by
    show (gd_out cA N a0 j).setSlot j (.ref (a0 + 1 + j)) = _
    rw [gd_out_is cA N a0 j, arrV_store]
    refine congrArg (arrV cA N) (funext fun i => ?_)
    unfold updV
    by_cases e : i = j
    · subst e
      rw [if_pos rfl, if_pos (Nat.lt_succ_self i)]
      rfl
    · rw [if_neg e]
      dsimp only
      by_cases h : i < j
      · rw [if_pos h, if_pos (Nat.lt_succ_of_lt h)]
      · rw [if_neg h, if_neg (by omega)]
theorem gd_heap (U : State) (cA cI : ClassId) (N M : Nat) : ∀ j, (gd_st U cA cI N M j).heap.size = U.heap.size + 1 + j ∧ (gd_st U cA cI N M j).heap[U.heap.size]? = some (gd_out cA N U.heap.size j) ∧ (gd_st U cA cI N M j).vm = U.vm ∧ (gd_st U cA cI N M j).slotsUsed = U.slotsUsed + N + j * M ∧
    (∀ a, a < U.heap.size → (gd_st U cA cI N M j).heap[a]? = U.heap[a]?) ∧ ∀ i, i < j → (gd_st U cA cI N M j).heap[U.heap.size + 1 + i]? = some (gd_row cI M)
  | 0 => by
    refine ⟨by simp [gd_st], by simp [gd_st], rfl, by simp [gd_st, gd_out], fun a ha => State.heap_pushCell_of_lt _ _ ha, fun i hi => absurd hi (Nat.not_lt_zero i)⟩
  | j + 1 => by
    obtain ⟨h1, h2, h3, h4, h5, h6⟩ := gd_heap U cA cI N M j
    have hlt : U.heap.size < (gd_st U cA cI N M j).heap.size := by rw [h1]; omega
    have hp : ((gd_st U cA cI N M j).pushCell (gd_row cI M)).heap[U.heap.size]? = some (gd_out cA N U.heap.size j) := by rw [State.heap_pushCell_of_lt (h := hlt)]; exact h2
    refine ⟨?_, State.heap_setCell_self hp, by simp [gd_st, h3], ?_, fun a ha => ?_, fun i hi => ?_⟩
    · simp [gd_st, State.setCell, h1]; omega
    · simp [gd_st, h4, gd_row, Nat.succ_mul]; omega
    · show (((gd_st U cA cI N M j).pushCell (gd_row cI M)).setCell U.heap.size _).heap[a]? = _
      rw [State.heap_setCell_other (Nat.ne_of_gt ha), State.heap_pushCell_of_lt (h := Nat.lt_trans ha hlt)]
      exact h5 a ha
    · show (((gd_st U cA cI N M j).pushCell (gd_row cI M)).setCell U.heap.size _).heap[U.heap.size + 1 + i]? = _
      rw [State.heap_setCell_other (show U.heap.size ≠ U.heap.size + 1 + i by omega)]
      by_cases e : i = j
      · subst e
        rw [← h1]
        exact State.heap_pushCell_size _ _
      · have hlt2 : U.heap.size + 1 + i < (gd_st U cA cI N M j).heap.size := by rw [h1]; omega
        rw [State.heap_pushCell_of_lt (h := hlt2)]
        exact h6 i (by omega)
theorem gd_top (U : State) (g : JFrame) (cA cI : ClassId) (N M : Nat) : ∀ j, gd_st (U.setTop g) cA cI N M j = (gd_st U cA cI N M j).setTop g
  | 0 => rfl
  | j + 1 => by simp only [gd_st, gd_top U g cA cI N M j, State.heap_setTop, State.pushCell_setTop, State.setCell_setTop]
section GD1
variable {E : CtlPost} {e : Env} {d : Bool} {acts : List Action} {s : State}
/-- an array of defaults is made -/
theorem gd_new {c comp : ClassId} {k : Class} {ty : FieldType} {n : Nat} {v : Value} (hk : s.vm.classes[c]? = some k) (hkind : k.kind = .array comp ty) (h1 : n ≤ e.platform.arrayLengthLimit) (h2 : n * componentBytes ty ≤ e.platform.maxHeapBytes) (hf : fits ty v = true) (hdv : v.isDefault = true) (h3 : s.heap.size < e.platform.maxCells) (h4 : s.slotsUsed + n ≤ e.platform.maxSlots) {Q : Addr → Pre}
    (hq : Q s.heap.size d acts (s.pushCell { cls := c, slots := Array.replicate n v, vm := .none })) : wp (Jvm.newArray c n v) Q E e d acts s := by
  have hslot : ∀ i w, (Array.replicate n v)[i]? = some w → s.fitsSlot c .none i w = true := by
    intro i w hw
    rw [Array.getElem?_replicate] at hw
    split at hw
    · cases hw
      simp [State.fitsSlot, State.slotType?, hk, hkind, hf]
    · cases hw
  have hall : ((Array.replicate n v).all (·.isDefault)) = true := by
    rw [Array.all_replicate]
    split <;> simp [hdv]
  have hac : allocActs (Array.replicate n v) s.heap.size acts = acts := by
    unfold allocActs
    rw [if_pos hall]
  simp only [Jvm.newArray, Jvm.arrayFits, wp_bind', W.ask, W.ite, show ¬ n > e.platform.arrayLengthLimit by omega, if_false, wp_pure', W.theClass, hk, hkind, show ¬ n * componentBytes ty > e.platform.maxHeapBytes by omega, W.alloc, W.stop, Option.some.injEq, exists_eq_left', Array.size_replicate, hac]
  rw [if_neg (by omega)]
  exact ⟨h3, h4, hslot, hq⟩
end GD1
section GD2
variable {E : CtlPost} {e : Env} {d : Bool} {acts : List Action} {s : State}
/-- 'make' of two dimensions of ints -/
theorem gd_make {cA cI cc : ClassId} {kA kI : Class} {n k : Int32} (hA : s.vm.classes[cA]? = some kA) (hkA : kA.kind = .array cI (.array .int)) (hI : s.vm.classes[cI]? = some kI) (hkI : kI.kind = .array cc .int) (hn : ¬ n < 0) (hk : ¬ k < 0)
    (h1 : n.toNatClampNeg ≤ e.platform.arrayLengthLimit) (h2 : n.toNatClampNeg * 4 ≤ e.platform.maxHeapBytes) (h3 : k.toNatClampNeg ≤ e.platform.arrayLengthLimit) (h4 : k.toNatClampNeg * 4 ≤ e.platform.maxHeapBytes)
    (h5 : s.heap.size + 1 + n.toNatClampNeg ≤ e.platform.maxCells) (h6 : s.slotsUsed + n.toNatClampNeg + n.toNatClampNeg * k.toNatClampNeg ≤ e.platform.maxSlots) {Q : Addr → Pre}
    (hq : ∀ d' acts', Q s.heap.size d' acts' (gd_st s cA cI n.toNatClampNeg k.toNatClampNeg n.toNatClampNeg)) : wp (multianewarray.make cA [n, k]) Q E e d acts s := by
  have hbad : ([k].find? (· < 0)) = none := by simp [hk]
  rw [multianewarray.make]
  simp only [wp_bind', W.ite, hn, if_false, wp_pure', W.theClass, hA, hkA, Option.some.injEq, exists_eq_left']
  refine gd_new hA hkA h1 h2 rfl rfl (by omega) (by have := Nat.zero_le (n.toNatClampNeg * k.toNatClampNeg); omega) ?_
  simp only [hbad]
  rw [ite_self, wp_bind', Std.Legacy.Range.forIn_eq_forIn_range']
  rw [show ([:n.toNatClampNeg] : Std.Legacy.Range).size = n.toNatClampNeg by simp [Std.Legacy.Range.size]]
  show wp (forIn (List.range' 0 n.toNatClampNeg 1) PUnit.unit _) _ E e d acts _
  refine wp_forIn_inv (fun left U => ∃ j, j ≤ n.toNatClampNeg ∧ left = List.range' j (n.toNatClampNeg - j) ∧ U = gd_st s cA cI n.toNatClampNeg k.toNatClampNeg j) _ _ ⟨0, Nat.zero_le _, rfl, rfl⟩ ?_ ?_
  · rintro i left U d' acts' Q' ⟨j, hj, hl, rfl⟩ hnext
    have hlt : j < n.toNatClampNeg := by
      by_cases h : j < n.toNatClampNeg
      · exact h
      · rw [show n.toNatClampNeg - j = 0 by omega] at hl; cases hl
    rw [show n.toNatClampNeg - j = (n.toNatClampNeg - (j + 1)) + 1 by omega, List.range'_succ] at hl
    obtain ⟨rfl, rfl⟩ := List.cons.inj hl
    obtain ⟨g1, g2, g3, g4, -, -⟩ := gd_heap s cA cI n.toNatClampNeg k.toNatClampNeg i
    have hmul : i * k.toNatClampNeg + k.toNatClampNeg ≤ n.toNatClampNeg * k.toNatClampNeg := by
      have := Nat.mul_le_mul_right k.toNatClampNeg (show i + 1 ≤ n.toNatClampNeg from hlt)
      rwa [Nat.succ_mul] at this
    simp only [wp_bind']
    rw [multianewarray.make]
    simp only [wp_bind', W.ite, hk, if_false, wp_pure', W.theClass, g3, hI, hkI, Option.some.injEq, exists_eq_left']
    refine gd_new (by rw [g3]; exact hI) hkI h3 h4 rfl rfl (by rw [g1]; omega) (by rw [g4]; omega) ?_
    have hlt0 : s.heap.size < (gd_st s cA cI n.toNatClampNeg k.toNatClampNeg i).heap.size := by rw [g1]; omega
    simp only [wp_bind', W.writeLoc, wp_pure']
    have ho := gd_out_is cA n.toNatClampNeg s.heap.size i
    refine ⟨gd_out cA n.toNatClampNeg s.heap.size i, by rw [State.heap_pushCell_of_lt (h := hlt0)]; exact g2, by rw [ho]; exact (fun q => by cases q), by rw [ho, arrV_size]; exact hlt, ?_, hnext _ _ _ ⟨i + 1, hlt, rfl, ?_⟩⟩
    · rw [ho]
      show State.fitsSlot _ cA _ i _ = true
      simp [State.fitsSlot, State.slotType?, arrV, g3, hA, hkA, fits]
    · rw [g1]; rfl
  · rintro U d' acts' ⟨j, hj, hl, rfl⟩
    have e1 : j = n.toNatClampNeg := by
      by_cases h : j < n.toNatClampNeg
      · rw [show n.toNatClampNeg - j = (n.toNatClampNeg - (j + 1)) + 1 by omega, List.range'_succ] at hl; cases hl
      · omega
    subst e1
    simp only [wp_pure']
    exact hq _ _
end GD2
section GD3
variable {p : Program} {l : Launch} {e : Env} {R : Room} {s : State} {m : MethodId} {args : Array Value} {below : List Frame} {meth : Method} {c : Code} {T : State} {locs : List Loc} {cells slots : Nat}
theorem gd_stand (Z : Stand p l e R s m args below meth c T locs cells slots) (cA cI : ClassId) (N M : Nat) : ∀ j, ∃ L : List Loc, (∀ q ∈ L, q.base = T.heap.size) ∧ Stand p l e R s m args below meth c (gd_st T cA cI N M j) (locs ++ L) (cells + 1 + j) (slots + N + j * M)
  | 0 => by
    have h := Z.pushed (gd_out cA N T.heap.size 0)
    have e1 : (gd_out cA N T.heap.size 0).slots.size = N := by simp [gd_out]
    rw [e1] at h
    exact ⟨[], (fun q hq => absurd hq List.not_mem_nil), by simpa [gd_st] using h⟩
  | j + 1 => by
    obtain ⟨L, hL, Zj⟩ := gd_stand Z cA cI N M j
    obtain ⟨g1, g2, -, -, -, -⟩ := gd_heap T cA cI N M j
    have hlt0 : T.heap.size < (gd_st T cA cI N M j).heap.size := by rw [g1]; omega
    have hcell : ((gd_st T cA cI N M j).pushCell (gd_row cI M)).heap[T.heap.size]? = some (gd_out cA N T.heap.size j) := by rw [State.heap_pushCell_of_lt (h := hlt0)]; exact g2
    have h := (Zj.pushed (gd_row cI M)).stored hcell j (.ref (T.heap.size + 1 + j))
    have e1 : (gd_row cI M).slots.size = M := by simp [gd_row]
    rw [e1] at h
    refine ⟨L ++ [⟨T.heap.size, j⟩], fun q hq => ?_, ?_⟩
    · rcases List.mem_append.mp hq with g | g
      · exact hL q g
      · rw [List.mem_singleton.mp g]
    · rw [← List.append_assoc, show slots + N + (j + 1) * M = slots + N + j * M + M by rw [Nat.succ_mul]; omega]
      exact h
set_option maxHeartbeats 4000000 in
theorem gd_step (Z : Stand p l e R s m args below meth c T locs cells slots) (hexec : p.tables.exec = Jvm.exec) {own : String} {index : Nat} {cA cI cc : ClassId} {kA kI : Class} (hown : s.vm.findClass own = some m.cls) (hlink : (Cond.classLink own index "[[I").before args s = true) (hfA : s.vm.findClass "[[I" = some cA) (hA : s.vm.classes[cA]? = some kA) (hkA : kA.kind = .array cI (.array .int)) (hI : s.vm.classes[cI]? = some kI) (hkI : kI.kind = .array cc .int)
    {g : JFrame} (hg : g.method = m) (hdg : decode c.code g.pc = .ok (.multianewarray index 2, 4)) {n k : Int32} {rest : List Value} (hstack : g.stack = .int k :: .int n :: rest) (hn : ¬ n < 0) (hk : ¬ k < 0) (hb1 : n.toNatClampNeg ≤ 1000) (hb2 : k.toNatClampNeg ≤ 1000000) (hcells : cells + (1 + n.toNatClampNeg) ≤ R.cells) (hslots : slots + (n.toNatClampNeg + n.toNatClampNeg * k.toNatClampNeg) ≤ R.slots) :
    ∃ (vm₁ : Vm) (L : List Loc), s.WarmedH vm₁ ∧ (∀ q ∈ L, q.base = T.heap.size) ∧ Stand p l e R s m args below meth c (gd_st (T.setVm vm₁) cA cI n.toNatClampNeg k.toNatClampNeg n.toNatClampNeg) (locs ++ L) (cells + 1 + n.toNatClampNeg) (slots + n.toNatClampNeg + n.toNatClampNeg * k.toNatClampNeg) ∧
      ∀ target, Steps p.tables e below ((gd_st (T.setVm vm₁) cA cI n.toNatClampNeg k.toNatClampNeg n.toNatClampNeg).setTop { g with pc := g.pc + 4, stack := .ref T.heap.size :: rest }) target → Steps p.tables e below (T.setTop g) target := by
  subst hg
  have hpl : e.platform.magicAccessors = ({} : Platform).magicAccessors := by rw [Z.admits.platform]
  obtain ⟨c0, hfc0, hcl⟩ := Cond.classLink_spec hown hlink e.platform hpl
  cases hfA.symm.trans hfc0
  obtain ⟨hg₁, hwarm₁, hready₁⟩ := State.classEntry (e := e) Z.warmed hcl
  generalize T.vm.noted g.method.cls index (.cls cA) = vm₁ at hg₁ hwarm₁ hready₁
  obtain ⟨kA₁, hA₁, heA⟩ := hwarm₁.alike.2.2 _ _ hA
  obtain ⟨kI₁, hI₁, heI⟩ := hwarm₁.alike.2.2 _ _ hI
  have Z₁ := Z.noted hwarm₁
  obtain ⟨L, hL, ZF⟩ := gd_stand Z₁ cA cI n.toNatClampNeg k.toNatClampNeg n.toNatClampNeg
  obtain ⟨hr1, hr2⟩ := Z.roomAbove hcells hslots
  refine ⟨vm₁, L, hwarm₁, hL, ZF, fun target hrest => ?_⟩
  have hl := Launch.admits_arrayLengthLimit Z.admits
  have hh := Launch.admits_maxHeapBytes Z.admits
  jvm_step Z.here [hexec, hdg]
  simp only [multianewarray.sem, wp_bind', W.resolveClassAt_links (State.method?_setTop g Z.here.top) hg₁]
  rw [W.popN, if_neg (by decide)]
  refine ⟨g, State.topJava?_setTop' (s := T.setVm vm₁) g Z.here.top, [.int n, .int k], rest, rfl, hstack, ?_⟩
  simp only [List.mapM_cons, List.mapM_nil, wp_bind', wp_pure']
  refine gd_make (kA := kA₁) (kI := kI₁) (cI := cI) (cc := cc) hA₁ (by rw [heA]; exact hkA) hI₁ (by rw [heI]; exact hkI) hn hk (by rw [hl]; omega) (by rw [hh]; omega) (by rw [hl]; omega) (by rw [hh]; omega) (by show T.heap.size + 1 + _ ≤ _; omega) (by show T.slotsUsed + _ + _ ≤ _; omega) (fun d' acts' => ?_)
  have eS : ((T.setTop g).setVm vm₁).setTop { g with stack := rest } = (T.setVm vm₁).setTop { g with stack := rest } := by
    show ((T.setVm vm₁).setTop g).setTop _ = _
    rw [State.setTop_setTop]
  rw [eS, gd_top]
  simp only [wp_bind', W.mark, W.pushRef, State.topJava?_setTop' _ ZF.here.top, Option.some.injEq, exists_eq_left', State.setTop_setTop, State.heap_setTop]
  intro acts
  simp [jvm, ZF.here.top]
  exact hrest
end GD3
