-- TABLES with places sought one behind the other
theorem ex_min {P : Nat → Prop} : ∀ M : Nat, P M → ∃ d, d ≤ M ∧ P d ∧ ∀ e, e < d → ¬ P e := by
  intro M
  induction M using Nat.strongRecOn with
  | _ M ih =>
    intro hM
    by_cases h : ∃ e, e < M ∧ P e
    · obtain ⟨e, e1, e2⟩ := h
      obtain ⟨d, d1, d2, d3⟩ := ih e e1 e2
      exact ⟨d, by omega, d2, d3⟩
    · exact ⟨M, Nat.le_refl _, hM, fun e he z => h ⟨e, he, z⟩⟩
theorem su_full {f : Int → Int} : ∀ n : Nat, (∀ i : Int, 0 ≤ i → i < n → f i = 1) → su f n = n := by
  intro n
  induction n with
  | zero => intro _; rfl
  | succ n ih =>
    intro h
    show su f n + f n = _
    rw [ih (fun i i0 i1 => h i i0 (by omega)), h n (by omega) (by omega)]; omega
theorem su_zero {f : Int → Int} : ∀ n : Nat, (∀ i : Int, 0 ≤ i → i < n → f i = 0) → su f n = 0 := by
  intro n
  induction n with
  | zero => intro _; rfl
  | succ n ih =>
    intro h
    show su f n + f n = _
    rw [ih (fun i i0 i1 => h i i0 (by omega)), h n (by omega) (by omega)]; rfl
def oc1 (E : Int → Int) (t : Int) : Int := if E t = -1 then 0 else 1
def HT (E : Int → Int) (n : Nat) (hs : Nat → Int) : Prop := (∀ t, 0 ≤ t → t < 4096 → -1 ≤ E t ∧ E t < n) ∧ (∀ j : Nat, j < n → ∃ d : Nat, E ((hs j + d) % 4096) = j ∧ ∀ e : Nat, e < d → E ((hs j + e) % 4096) ≠ -1) ∧ su (oc1 E) 4096 = n
theorem HT_none {E : Int → Int} {hs : Nat → Int} (h : ∀ t, 0 ≤ t → t < 4096 → E t = -1) : HT E 0 hs := by
  refine ⟨fun t t0 t1 => by rw [h t t0 t1]; omega, fun j hj => by omega, su_zero 4096 (fun i i0 i1 => by unfold oc1; rw [if_pos (h i i0 (by omega))])⟩
theorem HT_find {E : Int → Int} {n : Nat} {hs : Nat → Int} {hk : Int} (h : HT E n hs) (hn : n < 4096) (mt : Nat → Prop) : ∃ d : Nat, d < 4096 ∧ (E ((hk + d) % 4096) = -1 ∨ mt (E ((hk + d) % 4096)).toNat) ∧ ∀ e : Nat, e < d → E ((hk + e) % 4096) ≠ -1 ∧ ¬ mt (E ((hk + e) % 4096)).toNat := by
  have hem : ∃ t, 0 ≤ t ∧ t < 4096 ∧ E t = -1 := by
    by_cases c : ∃ t, 0 ≤ t ∧ t < 4096 ∧ E t = -1
    · exact c
    · exfalso
      have := su_full (f := oc1 E) 4096 (fun i i0 i1 => by
        unfold oc1
        rw [if_neg (fun z => c ⟨i, i0, by omega, z⟩)])
      rw [h.2.2] at this
      omega
  obtain ⟨t, t0, t1, te⟩ := hem
  obtain ⟨d, d1, d2, d3⟩ := ex_min (P := fun d => E ((hk + d) % 4096) = -1 ∨ mt (E ((hk + d) % 4096)).toNat) ((t - hk) % 4096).toNat (by
    left
    have : (hk + (((t - hk) % 4096).toNat : Int)) % 4096 = t := by omega
    rw [this]; exact te)
  refine ⟨d, by omega, d2, fun e he => ⟨fun z => d3 e he (Or.inl z), fun z => d3 e he (Or.inr z)⟩⟩
/-- one that is known is found -/
theorem HT_known {E : Int → Int} {n d j : Nat} {hs : Nat → Int} {hk : Int} {mt : Nat → Prop} (h : HT E n hs) (hj : j < n) (hh : hs j = hk) (hm : mt j) (h3 : ∀ e : Nat, e < d → E ((hk + e) % 4096) ≠ -1 ∧ ¬ mt (E ((hk + e) % 4096)).toNat) : E ((hk + d) % 4096) ≠ -1 := by
  obtain ⟨dj, d1, d2⟩ := h.2.1 j hj
  rw [hh] at d1 d2
  by_cases c : dj < d
  · exfalso
    have := (h3 dj c).2
    rw [d1, Int.toNat_natCast] at this
    exact this hm
  · by_cases c2 : d = dj
    · rw [c2, d1]; omega
    · exact d2 d (by omega)
theorem HT_put {E E' : Int → Int} {n d : Nat} {hs hs' : Nat → Int} {hk : Int} (h : HT E n hs) (he : E ((hk + d) % 4096) = -1) (h3 : ∀ e : Nat, e < d → E ((hk + e) % 4096) ≠ -1) (hE : ∀ t, E' t = if t = (hk + d) % 4096 then (n : Int) else E t) (hh : ∀ j, j < n → hs' j = hs j) (hn : hs' n = hk) : HT E' (n + 1) hs' := by
  obtain ⟨a1, a2, a3⟩ := h
  refine ⟨fun t t0 t1 => ?_, fun j hj => ?_, ?_⟩
  · rw [hE]; split
    · omega
    · have := a1 t t0 t1; omega
  · by_cases c : j = n
    · subst c
      refine ⟨d, by rw [hn, hE, if_pos rfl], fun e hed => ?_⟩
      rw [hn, hE]; split
      · omega
      · exact h3 e hed
    · obtain ⟨dj, d1, d2⟩ := a2 j (by omega)
      refine ⟨dj, ?_, fun e hed => ?_⟩
      · rw [hh j (by omega), hE, if_neg (fun z => by rw [z, he] at d1; omega)]; exact d1
      · rw [hh j (by omega), hE]; split
        · omega
        · exact d2 e hed
  · have hu := su_upd (f := oc1 E) (g := oc1 E') (i := (hk + d) % 4096) 4096 (by omega) (by omega) (fun j hj => by unfold oc1; rw [hE, if_neg hj])
    rw [hu, a3]
    unfold oc1
    rw [if_pos he, hE, if_pos rfl, if_neg (by omega)]
    omega
-- keys
def hsh (a b : Int) : Int := w32 (us64 (w64 (w64 (w64 (a * 31) + b) * (-7046029254386353131))) 52)
theorem hsh_rng (a b : Int) : 0 ≤ hsh a b ∧ hsh a b < 4096 := by
  unfold hsh us64
  generalize w64 (w64 (w64 (a * 31) + b) * (-7046029254386353131)) = x
  have h52 : ((52 : Int) % 64).toNat = 52 := by decide
  rw [h52]
  have h0 : 0 ≤ x % 18446744073709551616 / 2 ^ 52 ∧ x % 18446744073709551616 / 2 ^ 52 < 4096 := by
    have : (2 : Int) ^ 52 = 4503599627370496 := by decide
    rw [this]; omega
  rw [w64_id (by omega) (by omega), w32_id (by omega) (by omega)]
  exact h0
/-- digits with the first one highest -/
def rkd (b : Int) (f : Int → Int) : Nat → Int
  | 0 => 0
  | n + 1 => rkd b f n * b + f n
theorem rkd_rng {f : Int → Int} {w : Nat} : ∀ n : Nat, (∀ i : Int, 0 ≤ i → i < n → 0 ≤ f i ∧ f i < 2 ^ w) → 0 ≤ rkd (2 ^ w) f n ∧ rkd (2 ^ w) f n < 2 ^ (w * n) := by
  intro n
  induction n with
  | zero => intro _; show (0 : Int) ≤ 0 ∧ (0 : Int) < 2 ^ (w * 0); simp
  | succ n ih =>
    intro h
    obtain ⟨i1, i2⟩ := ih (fun i i0 i1 => h i i0 (by omega))
    obtain ⟨h1, h2⟩ := h n (by omega) (by omega)
    show 0 ≤ rkd (2 ^ w) f n * 2 ^ w + f n ∧ rkd (2 ^ w) f n * 2 ^ w + f n < 2 ^ (w * (n + 1))
    have hp : (0 : Int) < 2 ^ w := Int.pow_pos (by decide)
    have e : (2 : Int) ^ (w * (n + 1)) = 2 ^ (w * n) * 2 ^ w := by rw [Nat.mul_add, Nat.mul_one, Int.pow_add]
    have m1 : 0 ≤ rkd (2 ^ w) f n * 2 ^ w := Int.mul_nonneg i1 (by omega)
    have m2 : (rkd (2 ^ w) f n + 1) * 2 ^ w ≤ 2 ^ (w * n) * 2 ^ w := Int.mul_le_mul_of_nonneg_right (by omega) (by omega)
    rw [Int.add_mul, Int.one_mul] at m2
    rw [e]
    omega
theorem rkd_inj {f g : Int → Int} {w : Nat} : ∀ n : Nat, (∀ i : Int, 0 ≤ i → i < n → 0 ≤ f i ∧ f i < 2 ^ w) → (∀ i : Int, 0 ≤ i → i < n → 0 ≤ g i ∧ g i < 2 ^ w) → rkd (2 ^ w) f n = rkd (2 ^ w) g n → ∀ i : Int, 0 ≤ i → i < n → f i = g i := by
  intro n
  induction n with
  | zero => intro _ _ _ i i0 i1; omega
  | succ n ih =>
    intro hf hg e i i0 i1
    obtain ⟨f1, f2⟩ := hf n (by omega) (by omega)
    obtain ⟨g1, g2⟩ := hg n (by omega) (by omega)
    have hp : (0 : Int) < 2 ^ w := Int.pow_pos (by decide)
    have e' : rkd (2 ^ w) f n * 2 ^ w + f n = rkd (2 ^ w) g n * 2 ^ w + g n := e
    have m : f n = g n := by
      have a1 : (rkd (2 ^ w) f n * 2 ^ w + f n) % 2 ^ w = f n := by
        rw [Int.add_comm, Int.add_mul_emod_self_right]; exact Int.emod_eq_of_lt f1 f2
      have a2 : (rkd (2 ^ w) g n * 2 ^ w + g n) % 2 ^ w = g n := by
        rw [Int.add_comm, Int.add_mul_emod_self_right]; exact Int.emod_eq_of_lt g1 g2
      rw [← a1, ← a2, e']
    have q : rkd (2 ^ w) f n = rkd (2 ^ w) g n := by
      have : rkd (2 ^ w) f n * 2 ^ w = rkd (2 ^ w) g n * 2 ^ w := by omega
      exact Int.eq_of_mul_eq_mul_right (by omega) this
    by_cases c : i = n
    · rw [c]; exact m
    · exact ih (fun i i0 i1 => hf i i0 (by omega)) (fun i i0 i1 => hg i i0 (by omega)) q i i0 (by omega)
theorem rkd_congr {b : Int} {f g : Int → Int} : ∀ n : Nat, (∀ i : Int, 0 ≤ i → i < n → f i = g i) → rkd b f n = rkd b g n := by
  intro n
  induction n with
  | zero => intro _; rfl
  | succ n ih =>
    intro h
    show rkd b f n * b + f n = rkd b g n * b + g n
    rw [ih (fun i i0 i1 => h i i0 (by omega)), h n (by omega) (by omega)]
-- nodes
def nt (L : List Nd) (j : Nat) : Nd := L.getD j (0, 0, 0, 0)
theorem nt_old {L : List Nd} {a : Nd} {j : Nat} (h : j < L.length) : nt (L ++ [a]) j = nt L j := by
  unfold nt
  rw [List.getD_eq_getElem?_getD, List.getD_eq_getElem?_getD, List.getElem?_append_left h]
theorem nt_new {L : List Nd} {a : Nd} : nt (L ++ [a]) L.length = a := by
  unfold nt
  rw [List.getD_eq_getElem?_getD, List.getElem?_append_right (Nat.le_refl _)]
  simp
theorem knn_iff {L : List Nd} {k : Int × Int} : knn L k = true ↔ ∃ j, j < L.length ∧ (nt L j).1 = k.1 ∧ (nt L j).2.1 = k.2 := by
  unfold knn
  rw [List.any_eq_true]
  constructor
  · rintro ⟨a, ha, hk⟩
    obtain ⟨j, hj, e⟩ := List.getElem_of_mem ha
    refine ⟨j, hj, ?_⟩
    have : nt L j = a := by unfold nt; rw [List.getD_eq_getElem?_getD, List.getElem?_eq_getElem hj, ← e]; rfl
    rw [this]
    simpa using hk
  · rintro ⟨j, hj, h1, h2⟩
    refine ⟨nt L j, ?_, by simp [h1, h2]⟩
    unfold nt
    rw [List.getD_eq_getElem?_getD, List.getElem?_eq_getElem hj]
    exact List.getElem_mem hj
/-- a node's places and turns can be -/
def NOK (B : iv_M) (nd : Nd) : Prop := FV B (un4 nd.1) (un2 nd.2.1) ∧ nd.1 = pkd 4 (un4 nd.1) (B 114 2).toNat ∧ nd.2.1 = pkd 2 (un2 nd.2.1) (B 114 2).toNat
def LT (B : iv_M) (L : List Nd) : Prop := (∀ j, j < L.length → NOK B (nt L j)) ∧ ∀ j : Nat, 0 < j → j < L.length → (0 ≤ (nt L j).2.2.1 ∧ (nt L j).2.2.1 < j) ∧ 0 ≤ (nt L j).2.2.2 ∧ (nt L j).2.2.2 < 204
theorem LT_snoc {B : iv_M} {L : List Nd} {a : Nd} (h : LT B L) (h1 : NOK B a) (h2 : 0 < L.length) (h3 : (0 ≤ a.2.2.1 ∧ a.2.2.1 < L.length) ∧ 0 ≤ a.2.2.2 ∧ a.2.2.2 < 204) : LT B (L ++ [a]) := by
  refine ⟨fun j hj => ?_, fun j j0 hj => ?_⟩
  · rw [List.length_append] at hj
    by_cases c : j < L.length
    · rw [nt_old c]; exact h.1 j c
    · have : j = L.length := by simp at hj; omega
      rw [this, nt_new]; exact h1
  · rw [List.length_append] at hj
    by_cases c : j < L.length
    · rw [nt_old c]; exact h.2 j j0 c
    · have : j = L.length := by simp at hj; omega
      rw [this, nt_new]; exact h3
theorem un_pkd {f g : Int → Int} {n : Nat} (hn : n ≤ 12) (hf : ∀ i : Int, 0 ≤ i → i < n → 0 ≤ f i ∧ f i < 16) (hg : ∀ i : Int, 0 ≤ i → i < n → 0 ≤ g i ∧ g i < 4) : (∀ i : Int, 0 ≤ i → i < n → un4 (pkd 4 f n) i = f i) ∧ ∀ i : Int, 0 ≤ i → i < n → un2 (pkd 2 g n) i = g i := by
  refine ⟨fun i i0 i1 => ?_, fun i i0 i1 => ?_⟩
  · have := pkd_dig (w := 4) (f := f) (r := i.toNat) n (by omega) (fun j j0 j1 => ⟨(hf j j0 j1).1, by simpa using (hf j j0 j1).2⟩)
    rw [Int.toNat_of_nonneg i0] at this
    exact this
  · have := pkd_dig (w := 2) (f := g) (r := i.toNat) n (by omega) (fun j j0 j1 => ⟨(hg j j0 j1).1, by simpa using (hg j j0 j1).2⟩)
    rw [Int.toNat_of_nonneg i0] at this
    exact this
theorem NOK_of {B P : iv_M} {fr c : Int} (hP : Wf P) (h0 : P 114 0 = B 114 0) (h1 : P 114 1 = B 114 1) (h2 : P 114 2 = B 114 2) : NOK B ((keyB P).1, (keyB P).2, fr, c) ∧ (∀ i, 0 ≤ i → i < B 114 2 → un4 (keyB P).1 i = P 116 i ∧ un2 (keyB P).2 i = P 117 i) := by
  have h12 := hP.1.2.2.2.2.2.1
  have hr0 := hP.1.2.2.2.2.1
  obtain ⟨u1, u2⟩ := un_pkd (f := P 116) (g := P 117) (n := (P 114 2).toNat) (by omega) (fun i i0 i1 => by
    obtain ⟨g1, g2, _⟩ := hP.room i0 (by omega); exact ⟨g1, g2⟩) (fun i i0 i1 => by
    obtain ⟨_, _, _, g4, g5, _⟩ := hP.room i0 (by omega); exact ⟨g4, g5⟩)
  have u : ∀ i, 0 ≤ i → i < B 114 2 → un4 (keyB P).1 i = P 116 i ∧ un2 (keyB P).2 i = P 117 i := fun i i0 i1 => ⟨u1 i i0 (by omega), u2 i i0 (by omega)⟩
  refine ⟨⟨FV_congr h0.symm h1.symm h2.symm (fun r r0 r1 => u r r0 (by omega)) (Wf_FV hP), ?_, ?_⟩, u⟩
  · show pkd 4 (P 116) (P 114 2).toNat = pkd 4 (un4 (keyB P).1) (B 114 2).toNat
    rw [← h2]
    exact (pkd_congr _ (fun i i0 i1 => u1 i i0 i1)).symm
  · show pkd 2 (P 117) (P 114 2).toNat = pkd 2 (un2 (keyB P).2) (B 114 2).toNat
    rw [← h2]
    exact (pkd_congr _ (fun i i0 i1 => u2 i i0 i1)).symm
