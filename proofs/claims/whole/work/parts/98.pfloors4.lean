-- FLOORS: how the class goes through all ways
def flo (fx : Int → Int) : Nat → Int → List Int
  | 0, _ => []
  | m + 1, r => if fx r = 1 then flo fx m (r + 1) else r :: flo fx m (r + 1)
theorem flo_mem {fx : Int → Int} : ∀ (m : Nat) (r x : Int), x ∈ flo fx m r → r ≤ x ∧ x < r + m ∧ fx x ≠ 1 := by
  intro m
  induction m with
  | zero => intro r x hx; cases hx
  | succ m ih =>
    intro r x hx
    unfold flo at hx
    by_cases e : fx r = 1
    · rw [if_pos e] at hx
      have := ih (r + 1) x hx
      exact ⟨by omega, by omega, this.2.2⟩
    · rw [if_neg e, List.mem_cons] at hx
      rcases hx with rfl | hx
      · exact ⟨by omega, by omega, e⟩
      · have := ih (r + 1) x hx
        exact ⟨by omega, by omega, this.2.2⟩
theorem flo_nodup {fx : Int → Int} : ∀ (m : Nat) (r : Int), (flo fx m r).Nodup := by
  intro m
  induction m with
  | zero => intro r; exact List.nodup_nil
  | succ m ih =>
    intro r
    unfold flo
    by_cases e : fx r = 1
    · rw [if_pos e]; exact ih (r + 1)
    · rw [if_neg e, List.nodup_cons]
      exact ⟨fun z => by have := flo_mem m (r + 1) r z; omega, ih (r + 1)⟩
/-- the house that the rooms are laid for -/
def fHs (s : iv_M) (q1 : Nat) (B : iv_M) : Prop := (q1 = 9 ∨ q1 = 31) ∧ HB s q1 B ∧ (∀ r, 0 ≤ r → r < B 114 2 → s (q1 + 1 + 2) r = B 117 r) ∧ 0 ≤ B 114 2 ∧ B 114 2 ≤ 12
theorem fHs_ext {s s' : iv_M} {q1 : Nat} {B : iv_M} (h : Fo 102 109 s s') (hH : fHs s q1 B) : fHs s' q1 B := by
  obtain ⟨a, b, c, d⟩ := hH
  have ex : ∀ a : Nat, a < 102 → s' a = s a := fun a ha => by funext i; exact h a i (by omega)
  exact ⟨a, HB_ext (ex _ (by omega)) (ex _ (by omega)) b, fun r r0 r1 => by rw [ex _ (by omega)]; exact c r r0 r1, d⟩
def ftn (B : iv_M) : Bool := !decide (bAn (B 114 4) 4 = 0)
theorem lay_turns {N q1 : Nat} {rc : iv_M → Nat → Nat → Int → Option iv_M} {s0 P B : iv_M} {W : iv_M → Int × Int} {r c x4 : Int} {rs : List Int} {kx : iv_M → Option iv_M} (hN : 100 ≤ N) (hT : fTP (r :: rs) P) (hH : fHs s0 q1 B) (r0 : 0 ≤ r) (r1 : r < B 114 2) (c0 : 0 ≤ c) (c1 : c < 16) (h4 : x4 = if ftn B = true then 1 else 0)
    (hrc : ∀ t, 0 ≤ t → t < 4 → ffr P c = true → ∀ (x : iv_M) (A' : Int × Int), FRc x 103 (flr P r c t) → fSt x A' → Fo 102 109 s0 x → ∃ x', rc x 102 q1 (r + 1) = some x' ∧ FRc x' 103 (flr P r c t) ∧ fSt x' (fad A' (W (flr P r c t))) ∧ Fo 102 109 s0 x') (hnn : ∀ Q, 0 ≤ (W Q).2) : ∀ (e d f : Nat) (s : iv_M) (A : Int × Int), d + e = 4 → e < f → FRc s 103 P → fSt s A → Fo 102 109 s0 s → ∃ s', FX4_layFrom_l92 N rc 102 q1 r x4 c kx f s (d : Int) = kx s' ∧ FRc s' 103 P ∧ fSt s' (fad A (fsm (ftm true (ftn B) (B 117 r) W P r) e (4 * c + d))) ∧ Fo 102 109 s0 s' := by
  intro e
  induction e with
  | zero =>
    intro d f s A hd hf hF hS hO
    obtain ⟨f', rfl⟩ : ∃ f', f = f' + 1 := ⟨f - 1, by omega⟩
    refine ⟨s, ?_, hF, ?_, hO⟩
    · rw [FX4_layFrom_l92, if_pos (by omega)]
    · show fSt s (fad A (0, 0)); rw [fad_0]; exact hS
  | succ e ih =>
    intro d f s A hd hf hF hS hO
    obtain ⟨f', rfl⟩ : ∃ f', f = f' + 1 := ⟨f - 1, by omega⟩
    have d1 : (4 * c + (d : Int)) / 4 = c := by omega
    have d2 : (4 * c + (d : Int)) % 4 = d := by omega
    have hk := hH.2.2.1 r r0 r1
    have hk2 : s (q1 + 1 + 2) r = B 117 r := by rw [hO (q1 + 1 + 2) r (by have := hH.1; omega), hk]
    have r12 : r < 12 := by have := hH.2.2.2; omega
    have fs : fsm (ftm true (ftn B) (B 117 r) W P r) (e + 1) (4 * c + d) = fad (ftm true (ftn B) (B 117 r) W P r (4 * c + d)) (fsm (ftm true (ftn B) (B 117 r) W P r) e (4 * c + ((d + 1 : Nat) : Int))) := by
      show fad _ (fsm _ e (4 * c + (d : Int) + 1)) = _
      rw [show 4 * c + (d : Int) + 1 = 4 * c + ((d + 1 : Nat) : Int) by omega]
    have go : ∀ (y : iv_M), FRc y 103 P → fSt y (fad A (ftm true (ftn B) (B 117 r) W P r (4 * c + d))) → Fo 102 109 s0 y → ∃ s', FX4_layFrom_b139 N rc y 102 q1 r x4 c (d : Int) (FX4_layFrom_l92 N rc 102 q1 r x4 c kx f') kx = kx s' ∧ FRc s' 103 P ∧ fSt s' (fad A (fsm (ftm true (ftn B) (B 117 r) W P r) (e + 1) (4 * c + d))) ∧ Fo 102 109 s0 s' := fun y yF yS yO => by
      obtain ⟨s', z1, z2, z3, z4⟩ := ih (d + 1) f' y _ (by omega) (by omega) yF yS yO
      refine ⟨s', ?_, z2, ?_, z4⟩
      · unfold FX4_layFrom_b139
        rw [w32_id (by omega) (by omega)]; exact z1
      · rw [fs, ← fad_as]; exact z3
    by_cases fr : ffr P c = true
    rotate_left
    · -- the cell is not free: all that is left is nothing
      have nul : ∀ (m : Nat) (j : Int), 4 * c ≤ j → j + m ≤ 4 * c + 4 → fsm (ftm true (ftn B) (B 117 r) W P r) m j = (0, 0) := by
        intro m
        induction m with
        | zero => intro j _ _; rfl
        | succ m ih2 =>
          intro j j0 j1
          show fad (ftm true (ftn B) (B 117 r) W P r j) (fsm _ m (j + 1)) = (0, 0)
          rw [ih2 (j + 1) (by omega) (by omega), fad_0]
          unfold ftm
          rw [if_neg (by rw [show j / 4 = c by omega]; exact fun z => fr z.2)]
      refine ⟨s, ?_, hF, by rw [nul (e + 1) _ (by omega) (by omega), fad_0]; exact hS, hO⟩
      rw [FX4_layFrom_l92, if_neg (by omega)]
      simp only [Nat.reduceAdd]
      rw [FX1_isEmptyCell_ok hF c0 c1, Option.bind_some, if_neg (fun z => fr (ffr_iff.mpr z)), if_pos rfl]
    have one : (ftn B = true ∨ (d : Int) = B 117 r) → ∃ s', FX4_layFrom_b129 N rc s 102 q1 r x4 c (d : Int) (FX4_layFrom_l92 N rc 102 q1 r x4 c kx f') kx = kx s' ∧ FRc s' 103 P ∧ fSt s' (fad A (fsm (ftm true (ftn B) (B 117 r) W P r) (e + 1) (4 * c + d))) ∧ Fo 102 109 s0 s' := fun hk => by
      obtain ⟨y, y1, y2, y3, y4⟩ := layOne_ok (N := N) (q1 := q1) (rc := rc) (s := s) (s0 := s0) (W := W) (t := (d : Int)) hN hF hT fr c0 c1 (by omega) (by omega) hS hO (hrc d (by omega) (by omega) fr) hnn
      have ft : ftm true (ftn B) (B 117 r) W P r (4 * c + d) = fon true W P r c d := by
        unfold ftm
        rw [d1, d2, if_pos ⟨hk, fr⟩]
      obtain ⟨s', z⟩ := go y y2 (by rw [ft]; exact y3) y4
      refine ⟨s', ?_, z.2⟩
      unfold FX4_layFrom_b129
      rw [y1, Option.bind_some]; exact z.1
    rw [FX4_layFrom_l92, if_neg (by omega)]
    simp only [Nat.reduceAdd]
    rw [FX1_isEmptyCell_ok hF c0 c1, Option.bind_some, if_pos (ffr_iff.mp fr), if_neg (show ¬ (1 : Int) = 0 by decide)]
    by_cases tn : ftn B = true
    · rw [if_pos tn] at h4
      rw [if_neg (show ¬ x4 = 0 by omega)]
      exact one (Or.inl tn)
    · rw [if_neg tn] at h4
      rw [if_pos h4, rd_ok r0 r12, Option.bind_some, hk2]
      by_cases g : (d : Int) = B 117 r
      · rw [if_pos g]; exact one (Or.inr g)
      · rw [if_neg g]
        refine go s hF ?_ hO
        have ft : ftm true (ftn B) (B 117 r) W P r (4 * c + d) = (0, 0) := by
          unfold ftm
          rw [d1, d2, if_neg (fun z => z.1.elim tn g)]
        rw [ft, fad_0]; exact hS
theorem lay_cells {N q1 : Nat} {rc : iv_M → Nat → Nat → Int → Option iv_M} {s0 P B : iv_M} {W : iv_M → Int × Int} {r x4 : Int} {rs : List Int} (hN : 100 ≤ N) (hT : fTP (r :: rs) P) (hH : fHs s0 q1 B) (r0 : 0 ≤ r) (r1 : r < B 114 2) (h4 : x4 = if ftn B = true then 1 else 0)
    (hrc : ∀ c t, 0 ≤ c → c < 16 → 0 ≤ t → t < 4 → ffr P c = true → ∀ (x : iv_M) (A' : Int × Int), FRc x 103 (flr P r c t) → fSt x A' → Fo 102 109 s0 x → ∃ x', rc x 102 q1 (r + 1) = some x' ∧ FRc x' 103 (flr P r c t) ∧ fSt x' (fad A' (W (flr P r c t))) ∧ Fo 102 109 s0 x') (hnn : ∀ Q, 0 ≤ (W Q).2) : ∀ (e c f : Nat) (s : iv_M) (A : Int × Int), c + e = 16 → e < f → FRc s 103 P → fSt s A → Fo 102 109 s0 s → ∃ s', FX4_layFrom_l82 N rc 102 q1 r x4 (fun (s_788 : iv_M) => some s_788) f s (c : Int) = some s' ∧ FRc s' 103 P ∧ fSt s' (fad A (fsm (ftm true (ftn B) (B 117 r) W P r) (4 * e) (4 * c))) ∧ Fo 102 109 s0 s' := by
  intro e
  induction e with
  | zero =>
    intro c f s A hd hf hF hS hO
    obtain ⟨f', rfl⟩ : ∃ f', f = f' + 1 := ⟨f - 1, by omega⟩
    refine ⟨s, ?_, hF, ?_, hO⟩
    · rw [FX4_layFrom_l82, if_pos (by omega)]
    · show fSt s (fad A (0, 0)); rw [fad_0]; exact hS
  | succ e ih =>
    intro c f s A hd hf hF hS hO
    obtain ⟨f', rfl⟩ : ∃ f', f = f' + 1 := ⟨f - 1, by omega⟩
    obtain ⟨y, y1, y2, y3, y4⟩ := lay_turns (N := N) (q1 := q1) (rc := rc) (s0 := s0) (P := P) (B := B) (W := W) (r := r) (c := (c : Int)) (x4 := x4) (kx := fun (s_791 : iv_M) => (FX4_layFrom_b145 N rc s_791 102 q1 r x4 (c : Int) (FX4_layFrom_l82 N rc 102 q1 r x4 (fun (s_788 : iv_M) => some s_788) f') (fun (s_788 : iv_M) => some s_788))) hN hT hH r0 r1 (by omega) (by omega) h4 (fun t t0 t1 => hrc c t (by omega) (by omega) t0 t1) hnn 4 0 N s A (by omega) (by omega) hF hS hO
    have fs : fsm (ftm true (ftn B) (B 117 r) W P r) (4 * (e + 1)) (4 * (c : Int)) = fad (fsm (ftm true (ftn B) (B 117 r) W P r) 4 (4 * (c : Int) + ((0 : Nat) : Int))) (fsm (ftm true (ftn B) (B 117 r) W P r) (4 * e) (4 * ((c + 1 : Nat) : Int))) := by
      rw [show 4 * (e + 1) = 4 + 4 * e by omega, fsm_add, show 4 * (c : Int) + ((4 : Nat) : Int) = 4 * ((c + 1 : Nat) : Int) by omega, show 4 * (c : Int) + ((0 : Nat) : Int) = 4 * (c : Int) by omega]
    have st : FX4_layFrom_l82 N rc 102 q1 r x4 (fun (s_788 : iv_M) => some s_788) (f' + 1) s (c : Int) = FX4_layFrom_b145 N rc y 102 q1 r x4 (c : Int) (FX4_layFrom_l82 N rc 102 q1 r x4 (fun (s_788 : iv_M) => some s_788) f') (fun (s_788 : iv_M) => some s_788) := by
      rw [FX4_layFrom_l82, if_neg (by omega)]; exact y1
    have hnn2 := fsm_nn (g := ftm true (ftn B) (B 117 r) W P r) (fun j => ftm_nn hnn j) (4 * e) (4 * ((c + 1 : Nat) : Int))
    rw [st, fs, ← fad_as]
    unfold FX4_layFrom_b145
    by_cases u : y 102 3 = 0
    · rw [if_pos u, w32_id (by omega) (by omega)]
      exact ih (c + 1) f' y _ (by omega) (by omega) y2 y3 y4
    · rw [if_neg u]
      have big : 20000 < (fad A (fsm (ftm true (ftn B) (B 117 r) W P r) 4 (4 * (c : Int) + ((0 : Nat) : Int)))).2 := by
        rcases y3 with z | z
        · exact absurd z.2.2.2 u
        · exact z.1
      exact ⟨y, rfl, y2, fSt_more big hnn2 y3, y4⟩
theorem lay_skip {N q1 : Nat} {rc : iv_M → Nat → Nat → Int → Option iv_M} {s B : iv_M} {kx : iv_M → Int → Option iv_M} (hH : fHs s q1 B) (h2 : s 103 2 = B 114 2) : ∀ (m f : Nat) (x : Int), 0 ≤ x → x + m = B 114 2 → m < f → ∃ r, FX4_layFrom_l2 N rc 102 q1 kx f s x = kx s r ∧ ((flo (B 118) m x = [] ∧ r = B 114 2) ∨ ∃ m' : Nat, x ≤ r ∧ r + (m' + 1) = B 114 2 ∧ flo (B 118) m x = r :: flo (B 118) m' (r + 1)) := by
  intro m
  induction m with
  | zero =>
    intro f x x0 hx hf
    obtain ⟨f', rfl⟩ : ∃ f', f = f' + 1 := ⟨f - 1, by omega⟩
    refine ⟨x, ?_, Or.inl ⟨rfl, by omega⟩⟩
    rw [FX4_layFrom_l2]
    simp only [Nat.reduceAdd]
    rw [h2, if_pos (by omega)]
  | succ m ih =>
    intro f x x0 hx hf
    obtain ⟨f', rfl⟩ : ∃ f', f = f' + 1 := ⟨f - 1, by omega⟩
    have b12 := hH.2.2.2.2
    have fx := FX2_isFixed_ok (N := N) hH.2.1 x0 (by omega) (by omega)
    have fl : flo (B 118) (m + 1) x = if B 118 x = 1 then flo (B 118) m (x + 1) else x :: flo (B 118) m (x + 1) := rfl
    have st : FX4_layFrom_l2 N rc 102 q1 kx (f' + 1) s x = if (if B 118 x = 1 then (1 : Int) else 0) = 0 then kx s x else FX4_layFrom_l2 N rc 102 q1 kx f' s (x + 1) := by
      rw [FX4_layFrom_l2]
      simp only [Nat.reduceAdd]
      rw [h2, if_neg (by omega), fx, Option.bind_some, w32_id (by omega) (by omega)]
    rw [st, fl]
    by_cases e : B 118 x = 1
    · rw [if_pos e, if_pos e, if_neg (by decide)]
      obtain ⟨r, a1, a2⟩ := ih f' (x + 1) (by omega) (by omega) (by omega)
      refine ⟨r, a1, ?_⟩
      rcases a2 with z | ⟨m', z1, z2, z3⟩
      · exact Or.inl z
      · exact Or.inr ⟨m', by omega, z2, z3⟩
    · rw [if_neg e, if_neg e, if_pos rfl]
      exact ⟨x, rfl, Or.inr ⟨m, by omega, by omega, rfl⟩⟩
theorem layFrom_ok {N q1 : Nat} {s0 B : iv_M} (hN : 100 ≤ N) (hH : fHs s0 q1 B) : ∀ (n : Nat) (m : Nat) (x : Int) (s P : iv_M) (A : Int × Int), m < n → 0 ≤ x → x + m = B 114 2 → FRc s 103 P → P 114 2 = B 114 2 → fTP (flo (B 118) m x) P → fSt s A → Fo 102 109 s0 s → ∃ s', FX4_layFrom N n s 102 q1 x = some s' ∧ FRc s' 103 P ∧ fSt s' (fad A (flw true (ftn B) (B 117) (flo (B 118) m x) P)) ∧ Fo 102 109 s0 s' := by
  intro n
  induction n with
  | zero => intro m x s P A hm; omega
  | succ n ih =>
    intro m x s P A hm x0 hx hF hP2 hT hS hO
    have b12 := hH.2.2.2.2
    have hHs := fHs_ext hO hH
    have s2 : s 103 2 = B 114 2 := by rw [hF.2.2.1, hP2]
    obtain ⟨r, a1, a2⟩ := lay_skip (N := N) (rc := FX4_layFrom N n) (kx := fun (s_773 : iv_M) (x774_3 : Int) => (FX4_layFrom_b27 N (FX4_layFrom N n) s_773 102 q1 x774_3)) hHs s2 m N x x0 hx (by omega)
    have st : FX4_layFrom N (n + 1) s 102 q1 x = FX4_layFrom_b27 N (FX4_layFrom N n) s 102 q1 r := by
      rw [FX4_layFrom]; unfold FX4_layFrom_s; exact a1
    rw [st]
    unfold FX4_layFrom_b27
    simp only [Nat.reduceAdd]
    rcases a2 with ⟨z1, z2⟩ | ⟨m', z1, z2, z3⟩
    · rw [s2, if_neg (by omega), FX1_mismatches_ok hF hT.1 hT.2.1 (by omega), Option.bind_some, z1]
      have fin : ∀ v : Int, v = (if mm P = 0 then 1 else 0) → ∃ s', FX4_layFrom_b58 N (FX4_layFrom N n) s v (s 102 2) 102 = some s' ∧ FRc s' 103 P ∧ fSt s' (fad A (flw true (ftn B) (B 117) [] P)) ∧ Fo 102 109 s0 s' := fun v hv => by
        unfold FX4_layFrom_b58
        rw [pt_ok, Option.bind_some]
        refine ⟨_, rfl, FRc_ext (fun a x y => mu_rw (by omega)) hF, ?_, fun a i h => by rw [mu_ne (by omega)]; exact hO a i h⟩
        have ef : flw true (ftn B) (B 117) [] P = (v, 0) := by rw [hv]; rfl
        rw [ef]
        rcases hS with ⟨⟨c1, c1'⟩, c2, c3, c4⟩ | ⟨c1, c2, c4⟩
        · refine Or.inl ⟨?_, ?_, ?_, ?_⟩
          · show 0 ≤ A.2 + 0 ∧ A.2 + 0 ≤ 20000; omega
          · rw [mu_ne (by omega), c2]; show A.2 = A.2 + 0; omega
          · rw [mu_eq, c3, w32_add_l]; rfl
          · rw [mu_ne (by omega), c4]
        · refine Or.inr ⟨?_, ?_, ?_⟩
          · show 20000 < A.2 + 0; omega
          · rw [mu_ne (by omega), c2]
          · rw [mu_ne (by omega), c4]
      by_cases g : mm P = 0
      · rw [if_pos g]; exact fin 1 (by rw [if_pos g])
      · rw [if_neg g]; exact fin 0 (by rw [if_neg g])
    · rw [z3] at hT ⊢
      have h1 : s q1 1 = B 114 4 := hHs.2.1.1
      have fin : ∀ x4 : Int, x4 = (if ftn B = true then 1 else 0) → ∃ s', FX4_layFrom_b77 N (FX4_layFrom N n) s 102 q1 r x4 = some s' ∧ FRc s' 103 P ∧ fSt s' (fad A (flw true (ftn B) (B 117) (r :: flo (B 118) m' (r + 1)) P)) ∧ Fo 102 109 s0 s' := fun x4 h4 => by
        exact lay_cells (N := N) (q1 := q1) (rc := FX4_layFrom N n) (s0 := s0) (P := P) (B := B) (W := fun Q => flw true (ftn B) (B 117) (flo (B 118) m' (r + 1)) Q) (r := r) (x4 := x4) hN hT hH (by omega) (by omega) h4 (fun c t c0 c1 t0 t1 fr x A' xF xS xO => ih m' (r + 1) x (flr P r c t) A' (by omega) (by omega) (by omega) xF (by rw [flr_o (by decide) (by decide) (by decide)]; exact hP2) (flr_TP hT c0 c1 t0 t1 fr) xS xO) (fun Q => flw_nn _ Q) 16 0 N s A (by omega) (by omega) hF hS hO
      rw [s2, if_pos (by omega), h1]
      by_cases g : bAn (B 114 4) 4 = 0
      · rw [if_pos g]; exact fin 0 (by unfold ftn; rw [decide_eq_true g]; rfl)
      · rw [if_neg g]; exact fin 1 (by unfold ftn; rw [decide_eq_false g]; rfl)
