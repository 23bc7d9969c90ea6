-- A HOUSE OF THE CLASS, and what is well formed
def pC (B : iv_M) (j r : Int) : Int := B 122 (24 * j + 2 * r)
def pT (B : iv_M) (j r : Int) : Int := B 122 (24 * j + 2 * r + 1)
def dC (B : iv_M) (k r : Int) : Int := B 123 (24 * k + 2 * r)
def dT (B : iv_M) (k r : Int) : Int := B 123 (24 * k + 2 * r + 1)
/-- places and turns of all rooms that can be -/
def FV (B : iv_M) (f g : Int → Int) : Prop := (∀ r, 0 ≤ r → r < B 114 2 → 0 ≤ f r ∧ f r < 16 ∧ f r % 4 < B 114 0 ∧ f r / 4 < B 114 1 ∧ 0 ≤ g r ∧ g r < 4) ∧ ∀ r r', 0 ≤ r → r < B 114 2 → 0 ≤ r' → r' < B 114 2 → f r = f r' → r = r'
def HR1 (s : iv_M) (q : Nat) (B : iv_M) : Prop := s q 0 = (if 0 < B 114 0 then 1 else 0) ∧ HB s q B ∧ 0 ≤ s q 3 ∧ s q 3 < 4096 ∧ s q 5 = B 114 12 ∧ s q 6 = B 114 6 ∧ s q 7 = B 114 13 ∧ s q 8 = B 114 11
def HR3 (s : iv_M) (q : Nat) (B : iv_M) : Prop := ∀ k, 0 ≤ k → k < 4 → s (q + 8) (k + 1) = B 119 k
def HR4 (s : iv_M) (q : Nat) (B : iv_M) : Prop := s (q + 10) 1 = B 114 7 ∧ s (q + 12) 1 = B 114 7 ∧ ∀ j, 0 ≤ j → j < B 114 7 → s (q + 11) j = pkd 4 (pC B j) (B 114 2).toNat ∧ s (q + 13) j = pkd 2 (pT B j) (B 114 2).toNat
def HR5 (s : iv_M) (q : Nat) (B : iv_M) : Prop := ∀ k, 0 ≤ k → k < 4 → B 114 11 / 2 ^ k.toNat % 2 = 1 → s (q + 14) k = pkd 4 (dC B k) (B 114 2).toNat ∧ s (q + 15) k = pkd 2 (dT B k) (B 114 2).toNat
def HR6 (s : iv_M) (q : Nat) (B : iv_M) : Prop := s (q + 16) 1 = B 114 8 ∧ (∀ j, 0 ≤ j → j < B 114 8 → s (q + 17) j = 256 * B 124 j + 16 * B 125 j + B 126 j) ∧ s (q + 18) 1 = B 114 9 ∧ (∀ j, 0 ≤ j → j < B 114 9 → s (q + 19) j = 256 * B 127 j + 16 * B 128 j + B 129 j) ∧ s (q + 20) 1 = B 114 10 ∧ ∀ j, 0 ≤ j → j < B 114 10 → s (q + 21) j = 16 * B 130 j + B 131 j
def HR (s : iv_M) (q : Nat) (B : iv_M) : Prop := HR1 s q B ∧ (FRc s (q + 1) B ∧ FP s (q + 1) B) ∧ HR3 s q B ∧ HR4 s q B ∧ HR5 s q B ∧ HR6 s q B
def WH1 (t : Int) (B : iv_M) : Prop := (0 ≤ B 114 3 ∧ B 114 3 ≤ 6) ∧ (0 ≤ B 114 4 ∧ B 114 4 ≤ 7) ∧ (0 ≤ B 114 5 ∧ B 114 5 ≤ 2) ∧ (-(20 * t) ≤ B 114 6 ∧ B 114 6 ≤ 20 * t) ∧ (0 ≤ B 114 7 ∧ B 114 7 ≤ 20) ∧ (0 ≤ B 114 8 ∧ B 114 8 ≤ 10) ∧ (0 ≤ B 114 9 ∧ B 114 9 ≤ 12) ∧ (0 ≤ B 114 10 ∧ B 114 10 ≤ 8) ∧ (0 ≤ B 114 11 ∧ B 114 11 < 16) ∧ -1 ≤ B 114 12 ∧ (0 ≤ B 114 13 ∧ B 114 13 < 2147483648) ∧ (B 114 0 = 0 → B 114 2 = 0)
def WH2 (B : iv_M) : Prop := (∀ r, 0 ≤ r → r < B 114 2 → B 118 r = 0 ∨ B 118 r = 1) ∧ (∀ k, 0 ≤ k → k < 4 → -1 ≤ B 119 k ∧ B 119 k < 12) ∧ (∀ p, 0 ≤ p → p < B 114 3 → 0 ≤ B 120 p ∧ B 120 p < B 114 2) ∧ (∀ j, 0 ≤ j → j < B 114 7 → FV B (pC B j) (pT B j)) ∧ (∀ k, 0 ≤ k → k < 4 → B 114 11 / 2 ^ k.toNat % 2 = 1 → FV B (dC B k) (dT B k)) ∧ (∀ j, 0 ≤ j → j < B 114 8 → isW B (B 124 j) (B 125 j) (B 126 j) ∧ (B 124 j = 2 → B 125 j < B 126 j)) ∧ (∀ j, 0 ≤ j → j < B 114 9 → (0 ≤ B 127 j ∧ B 127 j < B 114 3) ∧ (0 ≤ B 128 j ∧ B 128 j ≤ 10) ∧ 0 ≤ B 129 j ∧ B 129 j < 16) ∧ ∀ j, 0 ≤ j → j < B 114 10 → (0 ≤ B 130 j ∧ B 130 j < B 114 2) ∧ 0 ≤ B 131 j ∧ B 131 j < 16
def WH (t : Int) (B : iv_M) : Prop := Wf B ∧ WH1 t B ∧ WH2 B
theorem HR1_ext {s s' B : iv_M} {q : Nat} (h : s' q = s q) (h9 : s' (q + 9) = s (q + 9)) (hH : HR1 s q B) : HR1 s' q B := by
  unfold HR1 HB at hH ⊢; rw [h, h9]; exact hH
theorem HR_ext {s s' B : iv_M} {q : Nat} (h : ∀ a, q ≤ a → a ≤ q + 21 → s' a = s a) (hH : HR s q B) : HR s' q B := by
  obtain ⟨h1, ⟨h2, h2'⟩, h3, h4, h5, h6⟩ := hH
  refine ⟨HR1_ext (h q (by omega) (by omega)) (h (q + 9) (by omega) (by omega)) h1, ⟨FRc_ext (fun a x y => h a (by omega) (by omega)) h2, FP_ext (h (q + 1) (by omega) (by omega)) h2'⟩, ?_, ?_, ?_, ?_⟩
  · unfold HR3 at h3 ⊢; rw [h (q + 8) (by omega) (by omega)]; exact h3
  · unfold HR4 at h4 ⊢; rw [h (q + 10) (by omega) (by omega), h (q + 11) (by omega) (by omega), h (q + 12) (by omega) (by omega), h (q + 13) (by omega) (by omega)]; exact h4
  · unfold HR5 at h5 ⊢; rw [h (q + 14) (by omega) (by omega), h (q + 15) (by omega) (by omega)]; exact h5
  · unfold HR6 at h6 ⊢; rw [h (q + 16) (by omega) (by omega), h (q + 17) (by omega) (by omega), h (q + 18) (by omega) (by omega), h (q + 19) (by omega) (by omega), h (q + 20) (by omega) (by omega), h (q + 21) (by omega) (by omega)]; exact h6
theorem FRc_eb {s B B' : iv_M} {q : Nat} (h : Eb B B') (hF : FRc s q B) : FRc s q B' := by
  unfold FRc at hF ⊢
  rw [eb_kd h, eb_nb h, h 114 (by omega) (by omega), h 115 (by omega) (by omega), h 117 (by omega) (by omega), h 121 (by omega) (by omega)]; exact hF
theorem FP_eb {s B B' : iv_M} {q : Nat} (h : Eb B B') (hF : FP s q B) : FP s q B' := by
  unfold FP at hF ⊢
  rw [h 114 (by omega) (by omega), h 116 (by omega) (by omega), h 117 (by omega) (by omega)]; exact hF
theorem HB_eb {s B B' : iv_M} {q : Nat} (h : Eb B B') (hF : HB s q B) : HB s q B' := by
  unfold HB at hF ⊢
  rw [h 114 (by omega) (by omega), h 118 (by omega) (by omega), h 120 (by omega) (by omega)]; exact hF
theorem eb_pC {B B' : iv_M} (h : Eb B B') : pC B' = pC B := by funext j r; unfold pC; rw [h 122 (by omega) (by omega)]
theorem eb_pT {B B' : iv_M} (h : Eb B B') : pT B' = pT B := by funext j r; unfold pT; rw [h 122 (by omega) (by omega)]
theorem eb_dC {B B' : iv_M} (h : Eb B B') : dC B' = dC B := by funext j r; unfold dC; rw [h 123 (by omega) (by omega)]
theorem eb_dT {B B' : iv_M} (h : Eb B B') : dT B' = dT B := by funext j r; unfold dT; rw [h 123 (by omega) (by omega)]
theorem eb_FV {B B' : iv_M} (h : Eb B B') : FV B' = FV B := by funext f g; unfold FV; rw [h 114 (by omega) (by omega)]
theorem eb_isWe {B B' : iv_M} (h : Eb B B') : isW B' = isW B := by funext k r o; unfold isW; rw [h 114 (by omega) (by omega)]
theorem HR_eb {s B B' : iv_M} {q : Nat} (h : Eb B B') (hH : HR s q B) : HR s q B' := by
  obtain ⟨h1, ⟨h2, h2'⟩, h3, h4, h5, h6⟩ := hH
  refine ⟨?_, ⟨FRc_eb h h2, FP_eb h h2'⟩, ?_, ?_, ?_, ?_⟩
  · obtain ⟨a1, a2, a3⟩ := h1
    rw [← h 114 (by omega) (by omega)] at a1 a3
    exact ⟨a1, HB_eb h a2, a3⟩
  · unfold HR3 at h3 ⊢; rw [h 119 (by omega) (by omega)]; exact h3
  · unfold HR4 at h4 ⊢; rw [eb_pC h, eb_pT h, h 114 (by omega) (by omega)]; exact h4
  · unfold HR5 at h5 ⊢; rw [eb_dC h, eb_dT h, h 114 (by omega) (by omega)]; exact h5
  · unfold HR6 at h6 ⊢; rw [h 114 (by omega) (by omega), h 124 (by omega) (by omega), h 125 (by omega) (by omega), h 126 (by omega) (by omega), h 127 (by omega) (by omega), h 128 (by omega) (by omega), h 129 (by omega) (by omega), h 130 (by omega) (by omega), h 131 (by omega) (by omega)]; exact h6
theorem WH_eb {t : Int} {B B' : iv_M} (h : Eb B B') (hH : WH t B) : WH t B' := by
  obtain ⟨h1, h2, h3⟩ := hH
  refine ⟨eb_Wf h h1, ?_, ?_⟩
  · unfold WH1 at h2 ⊢; rw [h 114 (by omega) (by omega)]; exact h2
  · unfold WH2 at h3 ⊢
    rw [eb_pC h, eb_pT h, eb_dC h, eb_dT h, eb_FV h, eb_isWe h, h 114 (by omega) (by omega), h 118 (by omega) (by omega), h 119 (by omega) (by omega), h 120 (by omega) (by omega), h 124 (by omega) (by omega), h 125 (by omega) (by omega), h 126 (by omega) (by omega), h 127 (by omega) (by omega), h 128 (by omega) (by omega), h 129 (by omega) (by omega), h 130 (by omega) (by omega), h 131 (by omega) (by omega)]
    exact h3
theorem WH_mono {t t' : Int} {B : iv_M} (ht : t ≤ t') (h : WH t B) : WH t' B := by
  obtain ⟨h1, ⟨a1, a2, a3, a4, a5⟩, h3⟩ := h
  exact ⟨h1, ⟨a1, a2, a3, by omega, a5⟩, h3⟩
-- where houses lie
def HQ (q : Nat) : Prop := q = 9 ∨ q = 31 ∨ (174 ≤ q ∧ (q - 174) % 22 = 0)
theorem HQ_sh {q k : Nat} (h : HQ q) (hk : k < 22) : sh (q + k) = iv_shh.getD k (99, 0) := by
  have t1 : ∀ j : Fin 22, sh (9 + j.val) = iv_shh.getD j.val (99, 0) := by decide
  have t2 : ∀ j : Fin 22, sh (31 + j.val) = iv_shh.getD j.val (99, 0) := by decide
  rcases h with rfl | rfl | ⟨h1, h2⟩
  · exact t1 ⟨k, hk⟩
  · exact t2 ⟨k, hk⟩
  · unfold sh
    rw [if_neg (by omega), show (q + k - 174) % 22 = k by omega]
theorem HQ_TF {q : Nat} (h : HQ q) : TF (q + 1) ∧ (sh (q + 2)).2 = 12 := by
  unfold TF
  rw [HQ_sh h (k := 4) (by omega), HQ_sh h (k := 5) (by omega), HQ_sh h (k := 6) (by omega), HQ_sh h (k := 7) (by omega), HQ_sh h (k := 2) (by omega)]
  decide
theorem HQ_rows {q : Nat} (h : HQ q) : (sh (q + 8)).2 = 5 ∧ (sh (q + 11)).2 = 20 ∧ (sh (q + 13)).2 = 20 ∧ (sh (q + 17)).2 = 10 ∧ (sh (q + 19)).2 = 12 ∧ (sh (q + 21)).2 = 8 := by
  rw [HQ_sh h (k := 8) (by omega), HQ_sh h (k := 11) (by omega), HQ_sh h (k := 13) (by omega), HQ_sh h (k := 17) (by omega), HQ_sh h (k := 19) (by omega), HQ_sh h (k := 21) (by omega)]
  decide
