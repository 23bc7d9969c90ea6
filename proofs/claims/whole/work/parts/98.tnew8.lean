-- the number of cells stays what the images have it
theorem Rep_K4 {nc Ls : Nat} {Xs : Nat → Int32} {h : iv_H} {s : iv_M} (hR : Rep nc Ls Xs h s) (t : TA 4 nc 53) : K4 h := by
  obtain ⟨f, hc, hf⟩ := (hR.2.2.2.2.1 53 t.1).2.2.2.1 t.2
  exact ⟨by rw [hR.1]; exact t.1, _, f, hc⟩
theorem Rep_53 {nc n2 Ls : Nat} {Xs : Nat → Int32} {h h' : iv_H} {s s' : iv_M} (hR : Rep nc Ls Xs h s) (hR' : Rep n2 Ls Xs h' s') (t : TA 4 nc 53) (t' : TA 4 n2 53) (e : h'.2.2 53 = h.2.2 53) (l : (sh 53).2 = 4) {k : Int} (k0 : 0 ≤ k) (k1 : k < 4) : rvo (s' 53 k) = rvo (s 53 k) := by
  obtain ⟨f, hc, hf⟩ := (hR.2.2.2.2.1 53 t.1).2.2.2.1 t.2
  obtain ⟨f', hc', hf'⟩ := (hR'.2.2.2.2.1 53 t'.1).2.2.2.1 t'.2
  rw [e, hc] at hc'
  have ef : f = f' := by injection hc' with hc'; injection hc' with _ hc'; injection hc' with _ hc'; injection hc' with hc'; injection hc'
  have a1 := hf k.toNat (by omega)
  have a2 := hf' k.toNat (by omega)
  rw [Int.toNat_of_nonneg k0] at a1 a2
  rw [← a1, ← a2, ef]
theorem Nc_keep {nc Ls : Nat} {Xs : Nat → Int32} {t t' : Int} {h h' : iv_H} {s s' : iv_M} (hR : Rep nc Ls Xs h s) (hR' : Rep nc Ls Xs h' s') (ta : TA 4 nc 53) (e : h'.2.2 53 = h.2.2 53) (hI : Inv t s) (hI' : Inv t' s') (hn : Nc nc s) : Nc nc s' := by
  have k : ∀ j, 0 ≤ j → j < 4 → s' 173 j = s 173 j := fun j j0 j1 => by
    have r := Rep_53 hR hR' ta ta e (by decide) j0 j1
    rcases hI.2.2.2.2.2.1 j j0 j1 with ⟨a, b⟩ | ⟨a, q, b, _⟩
    · rcases hI'.2.2.2.2.2.1 j j0 j1 with ⟨a', b'⟩ | ⟨a', q', b', _⟩
      · rw [a, a']
      · rw [b, b', rvo_neg (show (-1 : Int) < 0 by decide), rvo_nat] at r; cases r
    · rcases hI'.2.2.2.2.2.1 j j0 j1 with ⟨a', b'⟩ | ⟨a', q', b', _⟩
      · rw [b, b', rvo_neg (show (-1 : Int) < 0 by decide), rvo_nat] at r; cases r
      · rw [a, a']
  unfold Nc at hn ⊢
  rw [k 0 (by omega) (by omega), k 1 (by omega) (by omega), k 2 (by omega) (by omega), k 3 (by omega) (by omega)]; exact hn
theorem sh_4096 {n : Nat} (h : 174 ≤ n) : TA 4 n 53 := ⟨by omega, by decide⟩
theorem T11_n {n : Nat} (h : 174 ≤ n) : T11 n 0 := by
  unfold T11 T5 T8 T6 T9 T10 T0 T4 T1 T3
  repeat' apply And.intro
  all_goals first
    | omega
    | decide
    | (intro i hi
       have : i = 0 ∨ i = 1 ∨ i = 2 := by omega
       rcases this with rfl | rfl | rfl <;> exact ⟨by omega, by decide⟩)
    | (intro i hi
       have : i = 0 ∨ i = 1 ∨ i = 2 ∨ i = 3 ∨ i = 4 ∨ i = 5 := by omega
       rcases this with rfl | rfl | rfl | rfl | rfl | rfl <;> exact ⟨by omega, by decide⟩)
theorem T12_n {n : Nat} (h : 174 ≤ n) : T12 n 113 := by
  unfold T12
  repeat' apply And.intro
  all_goals first | omega | decide
