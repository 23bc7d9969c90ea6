-- THE INTERPRETER IS TRUE OF THE MACHINE, third part: each instruction of the heap
section IV3
variable {p : Program} {l : Launch} {e : Env} {R : Room} {s : State} {m : MethodId} {args : Array Value} {below : List Frame} {meth : Method} {c : Code} {H : Heap} {locs : List Loc} {cells slots : Nat} {Q : State → Prop}
variable {cc : ByteArray} {pc n : Nat} {ls : Array Slot} {D : va_G} {S0 : Nat} {ex : Nat → Nat} {tc : Nat → ClassId} {X : Nat → iv_C}
theorem iv_szd {g : JFrame} (k : H.size ≤ s.heap.size + cells → W p l e R s m args below meth c H locs cells slots Q g) : W p l e R s m args below meth c H locs cells slots Q g := fun T hT Z => k (by have := Z.heapSize; rw [hT] at this; exact this) T hT Z
theorem iv_size {N : Nat} {G : Nat → iv_C} (hP : va_P D vwCl (iv_ws S0 ex tc N G) H) (hS : va_S (fun q : Nat => S0 ≤ q) s.heap H locs) (h0 : S0 ≤ s.heap.size) (hC : s.heap.size + cells = S0 + N) (hz : H.size ≤ s.heap.size + cells) : H.size = S0 + N := by
  cases N with
  | zero => have := hS.1; omega
  | succ N =>
    have h1 := (hP N _ (iv_ws_at (Nat.lt_succ_self N))).lt
    simp only at h1
    omega
theorem iv_wo_of {h' : iv_H} {g : JFrame} (hP : va_P D vwCl (iv_ws S0 ex tc h'.1 h'.2.2) H) (hS : va_S (fun q : Nat => S0 ≤ q) s.heap H locs) (h0 : S0 ≤ s.heap.size) (hC : s.heap.size + cells = S0 + h'.1) (hN : h'.1 ≤ iv_big) (hX : ∀ a, iv_big ≤ a → h'.2.2 a = X a)
    (k : iv_Wo D S0 ex tc X h' H → va_S (fun q : Nat => S0 ≤ q) s.heap H locs → W p l e R s m args below meth c H locs cells slots Q g) : W p l e R s m args below meth c H locs cells slots Q g :=
  iv_szd fun hz => k ⟨iv_size hP hS h0 hC hz, hN, hP, hX⟩ hS
theorem iv_up_X {h : iv_H} {q : Nat} {x : iv_C} (hX : ∀ a, iv_big ≤ a → h.2.2 a = X a) (hq : q < iv_big) : ∀ a, iv_big ≤ a → iv_up h.2.2 q x a = X a := fun a ha => by
  have : a ≠ q := by omega
  simp [iv_up, this, hX a ha]
/-- where a new cell lies -/
theorem iv_fresh {N q : Nat} {G : Nat → iv_C} {E : va_E} (hD : va_D (fun q : Nat => S0 ≤ q) (iv_ws S0 ex tc N G ++ [(q, E)])) (hq : q < S0 + (N + 1)) : q = S0 + N := by
  have hl : (iv_ws S0 ex tc N G ++ [(q, E)])[N]? = some (q, E) := by rw [List.getElem?_append_right (by rw [iv_ws_len]; exact Nat.le_refl _), iv_ws_len, Nat.sub_self]; rfl
  have h1 : S0 ≤ q := hD.2 N _ hl
  by_cases e : q = S0 + N
  · exact e
  · exfalso
    have hk : q - S0 < N := by omega
    have h2 : (iv_ws S0 ex tc N G ++ [(q, E)])[q - S0]? = some (S0 + (q - S0), iv_en (iv_ad S0 ex) tc (G (q - S0))) := by rw [List.getElem?_append_left (by rw [iv_ws_len]; exact hk), iv_ws_at hk]
    have := hD.1 _ _ _ _ hl h2 (by simp only; omega)
    omega
theorem iv_new_ok {h : iv_H} {x : iv_C} {q : Nat} {nc ns : Nat} {st : List Value} (hW : iv_Wo D S0 ex tc X h H) (hlt : h.1 < iv_big) (h0 : S0 ≤ s.heap.size) (hC : s.heap.size + cells = S0 + h.1)
    {H1 : Heap} (hP1 : va_P D vwCl (iv_ws S0 ex tc h.1 h.2.2 ++ [(q, iv_en (iv_ad S0 ex) tc x)]) H1) (hD1 : va_D (fun q : Nat => S0 ≤ q) (iv_ws S0 ex tc h.1 h.2.2 ++ [(q, iv_en (iv_ad S0 ex) tc x)])) (hS1 : va_S (fun q : Nat => S0 ≤ q) s.heap H1 locs)
    (k : ∀ H' locs', iv_Wo D S0 ex tc X (h.1 + 1, ns, iv_up h.2.2 h.1 x) H' → va_S (fun q : Nat => S0 ≤ q) s.heap H' locs' → W p l e R s m args below meth c H' locs' (cells + 1) nc Q (F0 m pc ls ((Value.ref h.1 :: st).map (iv_tr (iv_ad S0 ex))))) : W p l e R s m args below meth c H1 locs (cells + 1) nc Q (F0 m pc ls (.ref q :: st.map (iv_tr (iv_ad S0 ex)))) := by
  refine iv_szd fun hz => ?_
  have hq : q < H1.size := (hP1 h.1 (q, iv_en (iv_ad S0 ex) tc x) (by rw [List.getElem?_append_right (by rw [iv_ws_len]; exact Nat.le_refl _), iv_ws_len, Nat.sub_self]; rfl)).lt
  have e := iv_fresh hD1 (by omega)
  subst e
  rw [iv_ws_push] at hP1
  have e2 : iv_ad S0 ex h.1 = S0 + h.1 := iv_ad_own hlt
  refine W.eq (by rw [← e2]; rfl) (k H1 locs ⟨iv_size hP1 hS1 h0 (by omega) hz, hlt, hP1, iv_up_X hW.2.2.2 hlt⟩ hS1)
theorem iv_tc {k0 k1 : Nat} {cA : ClassId} {ty : FieldType} {t1 t2 : List (ClassId × FieldType)} (h1 : va_K D vwCl t1 s) (h2 : va_K D vwCl t2 s) {cB : ClassId} (e1 : t1[k0]? = some (cA, ty)) (e2 : t2[k1]? = some (cB, ty)) : cA = cB := by
  have a := (h1.2 k0 _ e1).2
  have b := (h2.2 k1 _ e2).2
  cases ty
  case object C =>
    obtain ⟨_, _, -, -, -, a4⟩ := a
    obtain ⟨_, _, -, -, -, b4⟩ := b
    exact Option.some.inj (a4.symm.trans b4)
  all_goals exact Option.some.inj (a.symm.trans b)
theorem iv_map_set {ad : Nat → Nat} {fs : List Value} {b : Nat} {v : Value} : (fs.map (iv_tr ad)).set b (iv_tr ad v) = (fs.set b v).map (iv_tr ad) := by rw [List.map_set]
theorem iv_rf_tr {ad : Nat → Nat} (o : Option Nat) : va_rf (o.map ad) = iv_tr ad (iv_rf o) := by cases o <;> rfl
theorem iv_up_map {ad : Nat → Nat} {f : Nat → Option Nat} {k v : Nat} : va_up (fun i => (f i).map ad) k (some (ad v)) = fun i => (va_up f k (some v) i).map ad := by
  funext i
  unfold va_up
  split <;> rfl
end IV3
