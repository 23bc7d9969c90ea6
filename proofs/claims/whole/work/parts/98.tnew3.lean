-- IMAGE of the class: a house more
theorem T7_mono {nc n2 q : Nat} (h : nc ≤ n2) (t : T7 nc q) : T7 n2 q := ⟨⟨by have := t.1.1; omega, t.1.2⟩, ⟨by have := t.2.1; omega, t.2.2⟩⟩
theorem T1_mono {nc n2 q : Nat} (h : nc ≤ n2) (t : T1 nc q) : T1 n2 q := by
  obtain ⟨⟨a1, b1⟩, ⟨a2, b2⟩, ⟨a3, b3⟩, ⟨a4, b4⟩, ⟨a5, b5⟩, ⟨a6, b6⟩, a7, b7⟩ := t
  exact ⟨⟨by omega, b1⟩, ⟨by omega, b2⟩, ⟨by omega, b3⟩, ⟨by omega, b4⟩, ⟨by omega, b5⟩, ⟨by omega, b6⟩, by omega, b7⟩
theorem T2_mono {nc n2 q : Nat} (h : nc ≤ n2) (t : T2 nc q) : T2 n2 q := by
  obtain ⟨⟨a1, b1⟩, a2, ⟨a3, b3⟩, ⟨a4, b4⟩, a5, a6, ⟨a7, b7⟩, ⟨a8, b8⟩, a9, a10, a11, a12⟩ := t
  exact ⟨⟨by omega, b1⟩, T1_mono h a2, ⟨by omega, b3⟩, ⟨by omega, b4⟩, T7_mono h a5, T7_mono h a6, ⟨by omega, b7⟩, ⟨by omega, b8⟩, T7_mono h a9, T7_mono h a10, T7_mono h a11, a12⟩
theorem sh_hi_all : ∀ i : Fin 22, (iv_shh.getD i.1 (99, 0)).1 ≠ 111 ∧ (iv_shh.getD i.1 (99, 0)).1 ≠ 103 ∧ (iv_shh.getD i.1 (99, 0)).1 ≠ 106 ∧ (iv_shh.getD i.1 (99, 0)).1 ≠ 4 := by decide
theorem sh_hi {a : Nat} (h : 174 ≤ a) : (sh a).1 ≠ 111 ∧ (sh a).1 ≠ 103 ∧ (sh a).1 ≠ 106 ∧ (sh a).1 ≠ 4 := by
  unfold sh
  rw [if_neg (by omega)]
  exact sh_hi_all ⟨(a - 174) % 22, Nat.mod_lt _ (by decide)⟩
theorem sh_at {q i : Nat} (h : 174 ≤ q) (h2 : (q - 174) % 22 = 0) (hi : i < 22) : sh (q + i) = iv_shh.getD i (99, 0) := by
  unfold sh
  rw [if_neg (by omega), show (q + i - 174) % 22 = i by omega]
theorem T2_hi {nc q : Nat} (h : 174 ≤ q) (h2 : (q - 174) % 22 = 0) (h3 : q + 22 ≤ nc) : T2 nc q := by
  have e : ∀ i, i < 22 → sh (q + i) = iv_shh.getD i (99, 0) := fun i hi => sh_at h h2 hi
  have e0 : sh q = iv_shh.getD 0 (99, 0) := e 0 (by decide)
  refine ⟨⟨by omega, e0⟩, ⟨⟨by omega, e 1 (by decide)⟩, ⟨by omega, e 2 (by decide)⟩, ⟨by omega, e 3 (by decide)⟩, ⟨by omega, e 4 (by decide)⟩, ⟨by omega, e 5 (by decide)⟩, ⟨by omega, e 6 (by decide)⟩, ⟨by omega, e 7 (by decide)⟩⟩, ⟨by omega, e 8 (by decide)⟩, ⟨by omega, e 9 (by decide)⟩, ⟨⟨by omega, e 10 (by decide)⟩, ⟨by omega, ?_⟩⟩, ⟨⟨by omega, e 12 (by decide)⟩, ⟨by omega, ?_⟩⟩, ⟨by omega, e 14 (by decide)⟩, ⟨by omega, e 15 (by decide)⟩, ⟨⟨by omega, e 16 (by decide)⟩, ⟨by omega, ?_⟩⟩, ⟨⟨by omega, e 18 (by decide)⟩, ⟨by omega, ?_⟩⟩, ⟨⟨by omega, e 20 (by decide)⟩, ⟨by omega, ?_⟩⟩, ?_, ?_, ?_, ?_, ?_⟩
  · show (sh (q + 11)).1 = 1; rw [e 11 (by decide)]; rfl
  · show (sh (q + 13)).1 = 1; rw [e 13 (by decide)]; rfl
  · show (sh (q + 17)).1 = 1; rw [e 17 (by decide)]; rfl
  · show (sh (q + 19)).1 = 1; rw [e 19 (by decide)]; rfl
  · show (sh (q + 21)).1 = 1; rw [e 21 (by decide)]; rfl
  · rw [e 11 (by decide)]; rfl
  · rw [e 13 (by decide)]; rfl
  · rw [e 17 (by decide)]; rfl
  · rw [e 19 (by decide)]; rfl
  · rw [e 21 (by decide)]; rfl
theorem Mt_mono {nc n2 : Nat} {s s' : iv_M} (h : nc ≤ n2) (h174 : 174 ≤ nc) (hM : Mt nc s) (hs : ∀ a, a < nc → s' a = s a) : Mt n2 s' := by
  obtain ⟨m1, m2, m3, m4⟩ := hM
  have lo : ∀ a, ((sh a).1 = 111 ∨ (sh a).1 = 103 ∨ (sh a).1 = 106 ∨ (sh a).1 = 4) → a < nc := fun a ha => by
    by_cases z : 174 ≤ a
    · have := sh_hi z; omega
    · omega
  refine ⟨fun a _ k => ?_, fun a _ k => ?_, fun a _ k => ?_, fun a _ k i i0 i1 => ?_⟩
  · have ha := lo a (by omega)
    rw [hs a ha]
    obtain ⟨⟨x1, x2⟩, x3, x4⟩ := m1 a ha k
    exact ⟨⟨x1, T2_mono h x2⟩, x3, T2_mono h x4⟩
  · have ha := lo a (by omega)
    rw [hs a ha]
    obtain ⟨x1, x2, x3⟩ := m2 a ha k
    exact ⟨x1.imp id (T2_mono h), x2.imp id (T1_mono h), x3.imp id (fun t => ⟨by have := t.1; omega, t.2⟩)⟩
  · have ha := lo a (by omega)
    rw [hs a ha]
    obtain ⟨x1, x2⟩ := m3 a ha k
    exact ⟨x1, by have := x2.1; omega, x2.2⟩
  · have ha := lo a (by omega)
    rw [hs a ha]
    exact (m4 a ha k i i0 i1).imp id (T2_mono h)
theorem Rep_house {nc Ls : Nat} {Xs : Nat → Int32} {h : iv_H} {s : iv_M} (hR : Rep nc Ls Xs h s) (hnc : nc = 174 ∨ nc = 196 ∨ nc = 218 ∨ nc = 240) : ∃ h' s', nO h 2 = some (nc, nHs nc h.2.1 h.2.2) ∧ fX2_init 100 (nHs nc h.2.1 h.2.2) nc = some h' ∧ Rep (nc + 22) Ls Xs h' s' ∧ ∀ a, (a < nc ∨ nc + 22 ≤ a) → s' a = s a := by
  obtain ⟨h1, h2, h3, h4, h5, h6⟩ := hR
  have hb : iv_big = 1000000 := rfl
  have hc : nHc nc = true := by
    rcases hnc with rfl | rfl | rfl | rfl
    · exact nHc_ok.1
    · exact nHc_ok.2.1
    · exact nHc_ok.2.2.1
    · exact nHc_ok.2.2.2
  obtain ⟨h', e1, e2, e3, e4, e5⟩ := nHs_ok (m := h.2.1) (g := h.2.2) hc
  refine ⟨h', fun a i => if nc ≤ a ∧ a < nc + 22 then vlC (h'.2.2 a) i else s a i, ?_, e1, ⟨e2, by omega, by omega, fun a ha => ?_, fun a ha => ?_, ?_⟩, fun a ha => ?_⟩
  · unfold nO nHs
    rw [h1, if_pos (by omega)]
  · rw [e4 a (by omega)]; exact h4 a ha
  · by_cases z : nc ≤ a
    · have := okC_ok (e5 a z ha)
      have hx : (fun i => if nc ≤ a ∧ a < nc + 22 then vlC (h'.2.2 a) i else s a i) = vlC (h'.2.2 a) := by funext i; rw [if_pos ⟨z, ha⟩]
      show ckc a (sh a) (fun i => if nc ≤ a ∧ a < nc + 22 then vlC (h'.2.2 a) i else s a i) (h'.2.2 a)
      rw [hx]; exact this
    · have hx : (fun i => if nc ≤ a ∧ a < nc + 22 then vlC (h'.2.2 a) i else s a i) = s a := by funext i; rw [if_neg (by omega)]
      show ckc a (sh a) (fun i => if nc ≤ a ∧ a < nc + 22 then vlC (h'.2.2 a) i else s a i) (h'.2.2 a)
      rw [hx, e4 a (by omega)]; exact h5 a (by omega)
  · exact Mt_mono (by omega) (by omega) h6 (fun a ha => by funext i; exact if_neg (by omega))
  · funext i; exact if_neg (by omega)
theorem rp_wQ {nc Ls : Nat} {Xs : Nat → Int32} {h : iv_H} {s : iv_M} {q m v : Nat} {i : Int32} {x : Int} (hR : Rep nc Ls Xs h s) (t : TA 4 nc q) (hl : (sh q).2 = m) (p : i.toInt = x) (x0 : 0 ≤ x) (x1 : x < m) (tv : T2 nc v) : ∃ h1, wQ h q i v = some h1 ∧ Rep nc Ls Xs h1 (mu s q x v) := by
  obtain ⟨f, hc, hf⟩ := (hR.2.2.2.2.1 q t.1).2.2.2.1 t.2
  obtain ⟨g1, g2, g3⟩ := ix_ok p x0 x1
  obtain ⟨fs, o1, _, _⟩ := rp_obj (ci := 2) hR (T2_o tv)
  refine ⟨(h.1, h.2.1, iv_up h.2.2 q (.inl (4, (sh q).2, .inr (.inr (va_up f i.toNatClampNeg (some v)))))), ?_, rp_set hR t.1 ⟨fun ci e' => absurd (t.2.symm.trans e') (by omega), fun e' => absurd t.2 (by omega), fun e' => absurd t.2 (by omega), fun _ => ⟨_, rfl, fun j hj => ?_⟩, fun e' => absurd t.2 (by omega)⟩ (fun b hb => by funext j; rw [mu_ne (by omega)]) ?_⟩
  · unfold wQ iv_arr
    rw [if_pos (Or.inl (by rw [hR.1]; exact t.1)), hc]
    dsimp only [Option.bind_some]
    rw [o1, Option.bind_some, if_pos ⟨rfl, by rw [hR.1]; exact t.1, by rw [hl]; exact g1⟩]
  · show (if j = i.toNatClampNeg then some v else f j) = _
    rw [g2]
    by_cases z : j = x.toNat
    · rw [if_pos z, show ((j : Nat) : Int) = x by omega, mu_eq, rvo_nat]
    · rw [if_neg z, mu_ne (by omega)]; exact hf j hj
  · obtain ⟨m1, m2, m3, m4⟩ := hR.2.2.2.2.2
    have tq : (sh q).1 = 4 := t.2
    refine ⟨fun a ha k => ?_, fun a ha k => ?_, fun a ha k => ?_, fun a ha k j j0 j1 => ?_⟩
    · have : a ≠ q := fun z => by rw [z] at k; omega
      rw [mu_ne (by omega), mu_ne (by omega)]; exact m1 a ha k
    · have : a ≠ q := fun z => by rw [z] at k; omega
      rw [mu_ne (by omega), mu_ne (by omega), mu_ne (by omega)]; exact m2 a ha k
    · have : a ≠ q := fun z => by rw [z] at k; omega
      rw [mu_ne (by omega)]; exact m3 a ha k
    · by_cases z : a = q ∧ j = x
      · rw [z.1, z.2, mu_eq]; exact Or.inr (by rw [Int.toNat_natCast]; exact tv)
      · rw [mu_ne z]; exact m4 a ha k j j0 j1
