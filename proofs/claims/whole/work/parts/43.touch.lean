-- WHAT A WALK CHANGES: mismatches near the cells that it touches
theorem four {d : Int} (h0 : 0 ≤ d) (h1 : d < 4) : d = 0 ∨ d = 1 ∨ d = 2 ∨ d = 3 := by omega
def gk (K : Int → Int → Int) (c d : Int) : Int := if (d = 1 ∧ c % 4 = 3) ∨ (d = 3 ∧ c % 4 = 0) ∨ (d = 0 ∧ c < 4) ∨ (d = 2 ∧ 12 ≤ c) then 3 else K (c + dxx d + 4 * dyy d) ((d + 2) % 4)
def ek (K : Int → Int → Int) (c d : Int) : Int := bd (K c d) (gk K c d)
theorem kdn_gk {B : iv_M} {c d : Int} (hW : Wa B) (hc : Wc B) (c0 : 0 ≤ c) (c1 : c < 16) (d0 : 0 ≤ d) (d1 : d < 4) : kdn B c d = gk (kd B) c d := by
  obtain ⟨h1, h2, h3, h4, _⟩ := hW
  by_cases hi : isC B (c % 4 + dxx d) (c / 4 + dyy d)
  · have e : nb B c d = c + dxx d + 4 * dyy d := by unfold nb; rw [if_pos hi]; omega
    have hn : ¬ (c + dxx d + 4 * dyy d = -1) := by unfold isC at hi; omega
    unfold kdn gk
    rw [e, if_neg hn, if_neg]
    unfold isC dxx dyy at hi
    rcases four d0 d1 with rfl | rfl | rfl | rfl <;> simp at hi ⊢ <;> omega
  · rw [kdn_out hi]
    unfold gk
    split
    · rfl
    · next hg =>
      have : ¬ ((c + dxx d + 4 * dyy d) % 4 < B 114 0 ∧ (c + dxx d + 4 * dyy d) / 4 < B 114 1) := by
        unfold isC dxx dyy at hi
        unfold dxx dyy
        rcases four d0 d1 with rfl | rfl | rfl | rfl <;> simp at hi hg ⊢ <;> omega
      rw [kd_out _ hc _ _ this]
      · unfold dxx dyy; rcases four d0 d1 with rfl | rfl | rfl | rfl <;> simp at hg ⊢ <;> omega
      · unfold dxx dyy; rcases four d0 d1 with rfl | rfl | rfl | rfl <;> simp at hg ⊢ <;> omega
theorem ed_ek {B : iv_M} {c d : Int} (hW : Wa B) (hc : Wc B) (c0 : 0 ≤ c) (c1 : c < 16) (d0 : 0 ≤ d) (d1 : d < 4) : ed B c d = ek (kd B) c d := by
  unfold ed ek; rw [kdn_gk hW hc c0 c1 d0 d1]
def kmm (K : Int → Int → Int) : Int := su (fun c => ek K c 1 + ek K c 2) 16 + su (fun x => ek K x 0) 4 + su (fun y => ek K (4 * y) 3) 4
theorem mm_kmm {B : iv_M} (hW : Wa B) (hc : Wc B) : mm B = kmm (kd B) := by
  unfold mm kmm
  rw [su_congr 16 (fun c c0 c1 => by rw [ed_ek hW hc c0 c1 (by omega) (by omega), ed_ek hW hc c0 c1 (by omega) (by omega)]), su_congr 4 (fun c c0 c1 => ed_ek hW hc c0 (by omega) (by omega) (by omega)), su_congr (f := fun y => ed B (4 * y) 3) 4 (fun c c0 c1 => ed_ek hW hc (by omega) (by omega) (by omega) (by omega))]
def star (K : Int → Int → Int) (c : Int) : Int := su (ek K c) 4
theorem bd_comm (a b : Int) : bd a b = bd b a := by unfold bd; repeat' split; all_goals first | rfl | omega
theorem sixteen {c : Int} (h0 : 0 ≤ c) (h1 : c < 16) : c = 0 ∨ c = 1 ∨ c = 2 ∨ c = 3 ∨ c = 4 ∨ c = 5 ∨ c = 6 ∨ c = 7 ∨ c = 8 ∨ c = 9 ∨ c = 10 ∨ c = 11 ∨ c = 12 ∨ c = 13 ∨ c = 14 ∨ c = 15 := by omega
set_option maxHeartbeats 4000000 in
theorem kmm_one {K K' : Int → Int → Int} {c : Int} (c0 : 0 ≤ c) (c1 : c < 16) (h : ∀ c' d, 0 ≤ c' → c' < 16 → c' ≠ c → K' c' d = K c' d) : kmm K' - kmm K = star K' c - star K c := by
  have e1 := bd_comm (K' c 3) (K (c - 1) 1)
  have e2 := bd_comm (K c 3) (K (c - 1) 1)
  have e3 := bd_comm (K' c 0) (K (c - 4) 2)
  have e4 := bd_comm (K c 0) (K (c - 4) 2)
  rcases sixteen c0 c1 with rfl | rfl | rfl | rfl | rfl | rfl | rfl | rfl | rfl | rfl | rfl | rfl | rfl | rfl | rfl | rfl
  all_goals
    simp only [Int.reduceSub] at e1 e2 e3 e4
    simp [kmm, star, su, ek, gk, dxx, dyy, h]
    omega
theorem ek_ext {K K' : Int → Int → Int} {c d : Int} (c0 : 0 ≤ c) (c1 : c < 16) (d0 : 0 ≤ d) (d1 : d < 4) (h1 : K' c d = K c d) (h2 : 0 ≤ c + dxx d + 4 * dyy d → c + dxx d + 4 * dyy d < 16 → ∀ d', K' (c + dxx d + 4 * dyy d) d' = K (c + dxx d + 4 * dyy d) d') : ek K' c d = ek K c d := by
  unfold ek gk
  rw [h1]
  split
  · rfl
  · next hg =>
    rw [h2]
    · unfold dxx dyy; rcases four d0 d1 with rfl | rfl | rfl | rfl <;> simp at hg ⊢ <;> omega
    · unfold dxx dyy; rcases four d0 d1 with rfl | rfl | rfl | rfl <;> simp at hg ⊢ <;> omega
theorem ek_sym {K : Int → Int → Int} {c t d : Int} (c0 : 0 ≤ c) (c1 : c < 16) (t0 : 0 ≤ t) (t1 : t < 16) (d0 : 0 ≤ d) (d1 : d < 4) (ht : t = c + dxx d + 4 * dyy d) (hx : (c % 4 + dxx d) = t % 4) : ek K c d = ek K t ((d + 2) % 4) := by
  unfold ek gk
  rw [if_neg, if_neg, ← ht, bd_comm]
  · have : (d + 2) % 4 + 2 = 4 + d - 4 * ((d + 2) / 4) + 0 := by omega
    have hd : ((d + 2) % 4 + 2) % 4 = d := by omega
    have hc : t + dxx ((d + 2) % 4) + 4 * dyy ((d + 2) % 4) = c := by
      rw [ht]; rcases four d0 d1 with rfl | rfl | rfl | rfl <;> simp [dxx, dyy] <;> omega
    rw [hd, hc]
  · rcases four d0 d1 with rfl | rfl | rfl | rfl <;> simp [dxx, dyy] at ht hx ⊢ <;> omega
  · rcases four d0 d1 with rfl | rfl | rfl | rfl <;> simp [dxx, dyy] at ht hx ⊢ <;> omega
def st3 (K : Int → Int → Int) (t d : Int) : Int := su (fun k => if k = (d + 2) % 4 then 0 else ek K t k) 4
theorem su4 (f : Int → Int) : su f 4 = f 0 + f 1 + f 2 + f 3 := by simp [su]
theorem kmm_two {K K' : Int → Int → Int} {c t d : Int} (c0 : 0 ≤ c) (c1 : c < 16) (t0 : 0 ≤ t) (t1 : t < 16) (d0 : 0 ≤ d) (d1 : d < 4) (ht : t = c + dxx d + 4 * dyy d) (hx : (c % 4 + dxx d) = t % 4) (h : ∀ c' d, 0 ≤ c' → c' < 16 → c' ≠ c → c' ≠ t → K' c' d = K c' d) : kmm K' - kmm K = (star K' c + st3 K' t d) - (star K c + st3 K t d) := by
  have hct : t ≠ c := by rcases four d0 d1 with rfl | rfl | rfl | rfl <;> simp [dxx, dyy] at ht <;> omega
  have s1 := kmm_one (K := K) (K' := fun a b => if a = c then K' a b else K a b) c0 c1 (fun a b _ _ hab => if_neg hab)
  have s2 := kmm_one (K := fun a b => if a = c then K' a b else K a b) (K' := K') t0 t1 (fun a b ha0 ha1 hab => by
    by_cases e : a = c
    · rw [if_pos e]
    · rw [if_neg e]; exact h a b ha0 ha1 e hab)
  have y1 := ek_sym (K := K) c0 c1 t0 t1 d0 d1 ht hx
  have y2 := ek_sym (K := K') c0 c1 t0 t1 d0 d1 ht hx
  have y3 := ek_sym (K := fun a b => if a = c then K' a b else K a b) c0 c1 t0 t1 d0 d1 ht hx
  have a1 : ∀ k, 0 ≤ k → k < 4 → k ≠ d → ek (fun a b => if a = c then K' a b else K a b) c k = ek K' c k := by
    intro k k0 k1 kd
    refine ek_ext c0 c1 k0 k1 (if_pos rfl) (fun ha0 ha1 d' => ?_)
    have n1 : c + dxx k + 4 * dyy k ≠ c := by rcases four k0 k1 with rfl | rfl | rfl | rfl <;> simp [dxx, dyy] <;> omega
    have n2 : c + dxx k + 4 * dyy k ≠ t := by
      rw [ht]; rcases four k0 k1 with rfl | rfl | rfl | rfl <;> rcases four d0 d1 with rfl | rfl | rfl | rfl <;> simp [dxx, dyy] at kd ⊢ <;> omega
    rw [if_neg n1, h _ _ ha0 ha1 n1 n2]
  have a2 : ∀ k, 0 ≤ k → k < 4 → k ≠ (d + 2) % 4 → ek (fun a b => if a = c then K' a b else K a b) t k = ek K t k := by
    intro k k0 k1 kd
    refine ek_ext t0 t1 k0 k1 (if_neg hct) (fun ha0 ha1 d' => ?_)
    have n1 : t + dxx k + 4 * dyy k ≠ c := by
      rw [ht]; rcases four k0 k1 with rfl | rfl | rfl | rfl <;> rcases four d0 d1 with rfl | rfl | rfl | rfl <;> simp [dxx, dyy] at kd ⊢ <;> omega
    rw [if_neg n1]
  unfold star st3 at *
  simp only [su4] at *
  rcases four d0 d1 with rfl | rfl | rfl | rfl
  · have := a1 1 (by omega) (by omega) (by omega); have := a1 2 (by omega) (by omega) (by omega); have := a1 3 (by omega) (by omega) (by omega)
    have := a2 0 (by omega) (by omega) (by omega); have := a2 1 (by omega) (by omega) (by omega); have := a2 3 (by omega) (by omega) (by omega)
    simp at y1 y2 y3 ⊢; omega
  · have := a1 0 (by omega) (by omega) (by omega); have := a1 2 (by omega) (by omega) (by omega); have := a1 3 (by omega) (by omega) (by omega)
    have := a2 0 (by omega) (by omega) (by omega); have := a2 1 (by omega) (by omega) (by omega); have := a2 2 (by omega) (by omega) (by omega)
    simp at y1 y2 y3 ⊢; omega
  · have := a1 0 (by omega) (by omega) (by omega); have := a1 1 (by omega) (by omega) (by omega); have := a1 3 (by omega) (by omega) (by omega)
    have := a2 1 (by omega) (by omega) (by omega); have := a2 2 (by omega) (by omega) (by omega); have := a2 3 (by omega) (by omega) (by omega)
    simp at y1 y2 y3 ⊢; omega
  · have := a1 0 (by omega) (by omega) (by omega); have := a1 1 (by omega) (by omega) (by omega); have := a1 2 (by omega) (by omega) (by omega)
    have := a2 0 (by omega) (by omega) (by omega); have := a2 2 (by omega) (by omega) (by omega); have := a2 3 (by omega) (by omega) (by omega)
    simp at y1 y2 y3 ⊢; omega
