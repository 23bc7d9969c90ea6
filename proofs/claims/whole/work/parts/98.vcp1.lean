-- PAIRS OF CALLS: class and reference answer alike, and what holds between calls holds again (rows of calls written by wip/whole/vlaw.py)
def CP (t : Int) (Ls : Nat) (Xs : Nat → Int32) (a b : Nat) (va vb : List Value) : Prop := ∀ (nc : Nat) (h : iv_H) (s : iv_M), Rep nc Ls Xs h s → Inv t s → Nc nc s → 174 ≤ nc → Cl 60 a va h (fun r h1 => ∃ z : Int32, r = some (.int z) ∧ (∃ n1 s1, 174 ≤ n1 ∧ Rep n1 Ls Xs h1 s1) ∧ Cl 60 b vb h1 (fun r2 h2 => r2 = some (.int z) ∧ ∃ n2 s2, 174 ≤ n2 ∧ Rep n2 Ls Xs h2 s2 ∧ Inv (t + 1) s2 ∧ Nc n2 s2))
theorem CP_mm {t : Int} {Ls : Nat} {Xs : Nat → Int32} {a b : Nat} {va vb : List Value} (ha : a ≠ 187) (ha' : a ≠ 351) (hb : b ≠ 187) (hb' : b ≠ 351) (k : ∀ (nc : Nat) (h : iv_H) (s : iv_M), Rep nc Ls Xs h s → Inv t s → T11 nc 0 → T12 nc 113 → ∃ (x : Int) (s1 s2 : iv_M), (∀ Q : Option Value → iv_H → Prop, (∀ (z : Int32) (h1 : iv_H), z.toInt = x → Rep nc Ls Xs h1 s1 → Q (some (.int z)) h1) → Cl 60 a va h Q) ∧ (∀ (h1 : iv_H) (Q : Option Value → iv_H → Prop), Rep nc Ls Xs h1 s1 → (∀ (z : Int32) (h2 : iv_H), z.toInt = x → Rep nc Ls Xs h2 s2 → Q (some (.int z)) h2) → Cl 60 b vb h1 Q) ∧ Inv (t + 1) s2) : CP t Ls Xs a b va vb := by
  intro nc h s hR hI hn h174
  obtain ⟨x, s1, s2, c1, c2, hI2⟩ := k nc h s hR hI (T11_n h174) (T12_n h174)
  have K := Rep_K4 hR (sh_4096 h174)
  have A := Cl.kp ha ha' K (c1 (fun r h1 => ∃ z : Int32, r = some (.int z) ∧ z.toInt = x ∧ Rep nc Ls Xs h1 s1) (fun z h1 hz R1 => ⟨z, rfl, hz, R1⟩))
  refine Cl.mono (fun r h1 q => ?_) A
  obtain ⟨⟨z, rfl, hz, R1⟩, e1⟩ := q
  refine ⟨z, rfl, ⟨nc, s1, h174, R1⟩, ?_⟩
  have K1 := Rep_K4 R1 (sh_4096 h174)
  have B := Cl.kp hb hb' K1 (c2 h1 (fun r h2 => ∃ z2 : Int32, r = some (.int z2) ∧ z2.toInt = x ∧ Rep nc Ls Xs h2 s2) R1 (fun z h2 hz R2 => ⟨z, rfl, hz, R2⟩))
  refine Cl.mono (fun r h2 q => ?_) B
  obtain ⟨⟨z2, rfl, hz2, R2⟩, e2⟩ := q
  have e3 : z2 = z := Int32.toInt_inj.mp (by rw [hz, hz2])
  exact ⟨by rw [e3], nc, s2, h174, R2, hI2, Nc_keep hR R2 (sh_4096 h174) (e2.trans e1) hI hI2 hn⟩
set_option maxRecDepth 10000 in
theorem cp_image {t : Int} {Ls : Nat} {Xs : Nat → Int32} (t0 : 0 ≤ t) {m1 : Int32} : CP t Ls Xs 187 347 [.ref 0, .int m1] [.ref 113, .int m1] := by
  intro nc h s hR hI hn h174
  refine cl_image (by decide) hR (fun n hn' => T11_n (by omega)) rfl hI t0 hn (fun z h1 n2 s1 s2 hle R1 e hI2 hn2 => ⟨z, rfl, ⟨n2, s1, by omega, R1⟩, ?_⟩)
  exact RX12_image (by decide) R1 (T12_n (by omega)) rfl e (fun z2 h2 hz R2 => ⟨by rw [Int32.toInt_inj.mp hz], n2, s2, by omega, R2, hI2, hn2⟩)
set_option maxRecDepth 10000 in
theorem cp_feed {t : Int} {N Ls : Nat} {Xs : Nat → Int32} (hN : 20000000 ≤ N) (t0 : 0 ≤ t) (t1 : t ≤ 1000) {m1 m2 m3 m4 m5 : Int32} : CP t Ls Xs 136 207 [.ref 0, .int m1, .int m2, .int m3, .int m4, .int m5] [.ref 113, .int m1, .int m2, .int m3, .int m4, .int m5] := CP_mm (by decide) (by decide) (by decide) (by decide) (fun nc h s hR hI ta tb => by
  obtain ⟨a, s1, s2, e1, e2, i2⟩ := t_feed (N := N) (s := s) (x1 := m1.toInt) (x2 := m2.toInt) (x3 := m3.toInt) (x4 := m4.toInt) (x5 := m5.toInt) (by omega) hI t0
  exact ⟨a, s1, s2, fun Q hq => RX11_feed (by decide) hR ta rfl rfl rfl rfl rfl e1 hq, fun h1 Q R1 hq => RX12_feed (by decide) R1 tb rfl rfl rfl rfl rfl e2 hq, i2⟩)
set_option maxRecDepth 10000 in
theorem cp_end {t : Int} {N Ls : Nat} {Xs : Nat → Int32} (hN : 20000000 ≤ N) (t0 : 0 ≤ t) (t1 : t ≤ 1000) {m1 : Int32} : CP t Ls Xs 138 209 [.ref 0, .int m1] [.ref 113, .int m1] := CP_mm (by decide) (by decide) (by decide) (by decide) (fun nc h s hR hI ta tb => by
  obtain ⟨a, s1, s2, e1, e2, i2⟩ := t_end (N := N) (s := s) (x := m1.toInt) hI t0
  exact ⟨a, s1, s2, fun Q hq => RX11_end (by decide) hR ta rfl e1 hq, fun h1 Q R1 hq => RX12_end (by decide) R1 tb rfl e2 hq, i2⟩)
set_option maxRecDepth 10000 in
theorem cp_palace {t : Int} {N Ls : Nat} {Xs : Nat → Int32} (hN : 20000000 ≤ N) (t0 : 0 ≤ t) (t1 : t ≤ 1000) : CP t Ls Xs 139 239 [.ref 0] [.ref 113] := CP_mm (by decide) (by decide) (by decide) (by decide) (fun nc h s hR hI ta tb => by
  obtain ⟨a, s1, s2, e1, e2, i2⟩ := ct_palace (N := N) (s := s)  (by omega) hI t0 t1
  exact ⟨a, s1, s2, fun Q hq => RX11_palace (by decide) hR ta  e1 hq, fun h1 Q R1 hq => RX12_palace (by decide) R1 tb  e2 hq, i2⟩)
set_option maxRecDepth 10000 in
theorem cp_rule {t : Int} {N Ls : Nat} {Xs : Nat → Int32} (hN : 20000000 ≤ N) (t0 : 0 ≤ t) (t1 : t ≤ 1000) : CP t Ls Xs 140 241 [.ref 0] [.ref 113] := CP_mm (by decide) (by decide) (by decide) (by decide) (fun nc h s hR hI ta tb => by
  obtain ⟨a, s1, s2, e1, e2, i2⟩ := ct_rule (N := N) (s := s)  (by omega) hI t0 t1
  exact ⟨a, s1, s2, fun Q hq => RX11_rule (by decide) hR ta  e1 hq, fun h1 Q R1 hq => RX12_rule (by decide) R1 tb  e2 hq, i2⟩)
set_option maxRecDepth 10000 in
theorem cp_force {t : Int} {N Ls : Nat} {Xs : Nat → Int32} (hN : 20000000 ≤ N) (t0 : 0 ≤ t) (t1 : t ≤ 1000) {m1 : Int32} : CP t Ls Xs 141 242 [.ref 0, .int m1] [.ref 113, .int m1] := CP_mm (by decide) (by decide) (by decide) (by decide) (fun nc h s hR hI ta tb => by
  obtain ⟨a, s1, s2, e1, e2, i2⟩ := t_force (N := N) (s := s) (x := m1.toInt) hI t0 t1
  exact ⟨a, s1, s2, fun Q hq => RX11_force (by decide) hR ta rfl e1 hq, fun h1 Q R1 hq => RX12_force (by decide) R1 tb rfl e2 hq, i2⟩)
set_option maxRecDepth 10000 in
theorem cp_law {t : Int} {N Ls : Nat} {Xs : Nat → Int32} (hN : 20000000 ≤ N) (t0 : 0 ≤ t) (t1 : t ≤ 1000) {m1 : Int32} : CP t Ls Xs 143 243 [.ref 0, .int m1] [.ref 113, .int m1] := CP_mm (by decide) (by decide) (by decide) (by decide) (fun nc h s hR hI ta tb => by
  obtain ⟨a, s1, s2, e1, e2, i2⟩ := t_law (N := N) (s := s) (x := m1.toInt) hI t0 t1
  exact ⟨a, s1, s2, fun Q hq => RX11_law (by decide) hR ta rfl e1 hq, fun h1 Q R1 hq => RX12_law (by decide) R1 tb rfl e2 hq, i2⟩)
set_option maxRecDepth 10000 in
theorem cp_room {t : Int} {N Ls : Nat} {Xs : Nat → Int32} (hN : 20000000 ≤ N) (t0 : 0 ≤ t) (t1 : t ≤ 1000) {m1 m2 : Int32} : CP t Ls Xs 144 267 [.ref 0, .int m1, .int m2] [.ref 113, .int m1, .int m2] := CP_mm (by decide) (by decide) (by decide) (by decide) (fun nc h s hR hI ta tb => by
  obtain ⟨a, e1, e2⟩ := t_room (N := N) (s := s) (r := m1.toInt) (w := m2.toInt) (by omega) hI
  exact ⟨a, s, s, fun Q hq => RX11_room (by decide) hR ta rfl rfl e1 (fun z hz => hq z h hz hR), fun h1 Q R1 hq => RX12_room (by decide) R1 tb rfl rfl e2 (fun z hz => hq z h1 hz R1), (HR1_mono (by omega) hI)⟩)
set_option maxRecDepth 10000 in
theorem cp_at {t : Int} {N Ls : Nat} {Xs : Nat → Int32} (hN : 20000000 ≤ N) (t0 : 0 ≤ t) (t1 : t ≤ 1000) {m1 m2 : Int32} : CP t Ls Xs 145 268 [.ref 0, .int m1, .int m2] [.ref 113, .int m1, .int m2] := CP_mm (by decide) (by decide) (by decide) (by decide) (fun nc h s hR hI ta tb => by
  obtain ⟨a, e1, e2⟩ := t_at (N := N) (s := s) (x := m1.toInt) (y := m2.toInt) hI
  exact ⟨a, s, s, fun Q hq => RX11_at (by decide) hR ta rfl rfl e1 (fun z hz => hq z h hz hR), fun h1 Q R1 hq => RX12_at (by decide) R1 tb rfl rfl e2 (fun z hz => hq z h1 hz R1), (HR1_mono (by omega) hI)⟩)
set_option maxRecDepth 10000 in
theorem cp_sleeps {t : Int} {N Ls : Nat} {Xs : Nat → Int32} (hN : 20000000 ≤ N) (t0 : 0 ≤ t) (t1 : t ≤ 1000) {m1 : Int32} : CP t Ls Xs 146 269 [.ref 0, .int m1] [.ref 113, .int m1] := CP_mm (by decide) (by decide) (by decide) (by decide) (fun nc h s hR hI ta tb => by
  obtain ⟨a, e1, e2⟩ := t_sleeps (N := N) (s := s) (p := m1.toInt) hI
  exact ⟨a, s, s, fun Q hq => RX11_sleeps (by decide) hR ta rfl e1 (fun z hz => hq z h hz hR), fun h1 Q R1 hq => RX12_sleeps (by decide) R1 tb rfl e2 (fun z hz => hq z h1 hz R1), (HR1_mono (by omega) hI)⟩)
set_option maxRecDepth 10000 in
theorem cp_mismatch {t : Int} {N Ls : Nat} {Xs : Nat → Int32} (hN : 20000000 ≤ N) (t0 : 0 ≤ t) (t1 : t ≤ 1000) {m1 : Int32} : CP t Ls Xs 147 270 [.ref 0, .int m1] [.ref 113, .int m1] := CP_mm (by decide) (by decide) (by decide) (by decide) (fun nc h s hR hI ta tb => by
  obtain ⟨a, s2, e1, e2, i2⟩ := ct_mismatch (N := N) (s := s) (x := m1.toInt) (by omega) hI
  exact ⟨a, s, s2, fun Q hq => RX11_mismatch (by decide) hR ta rfl e1 (fun z hz => hq z h hz hR), fun h1 Q R1 hq => RX12_mismatch (by decide) R1 tb rfl e2 hq, i2⟩)
set_option maxRecDepth 10000 in
theorem cp_brick {t : Int} {N Ls : Nat} {Xs : Nat → Int32} (hN : 20000000 ≤ N) (t0 : 0 ≤ t) (t1 : t ≤ 1000) {m1 m2 m3 : Int32} : CP t Ls Xs 149 273 [.ref 0, .int m1, .int m2, .int m3] [.ref 113, .int m1, .int m2, .int m3] := CP_mm (by decide) (by decide) (by decide) (by decide) (fun nc h s hR hI ta tb => by
  obtain ⟨a, s1, s2, e1, e2, i2⟩ := ct_brick (N := N) (s := s) (x := m1.toInt) (y := m2.toInt) (z := m3.toInt) (by omega) hI t0 t1
  exact ⟨a, s1, s2, fun Q hq => RX11_brick (by decide) hR ta rfl rfl rfl e1 hq, fun h1 Q R1 hq => RX12_brick (by decide) R1 tb rfl rfl rfl e2 hq, i2⟩)
set_option maxRecDepth 10000 in
theorem cp_lay {t : Int} {N Ls : Nat} {Xs : Nat → Int32} (hN : 20000000 ≤ N) (t0 : 0 ≤ t) (t1 : t ≤ 1000) {m1 m2 : Int32} : CP t Ls Xs 150 274 [.ref 0, .int m1, .int m2] [.ref 113, .int m1, .int m2] := CP_mm (by decide) (by decide) (by decide) (by decide) (fun nc h s hR hI ta tb => by
  obtain ⟨a, s1, s2, e1, e2, i2⟩ := ct_lay (N := N) (s := s) (x := m1.toInt) (y := m2.toInt) hI t0 t1
  exact ⟨a, s1, s2, fun Q hq => RX11_lay (by decide) hR ta rfl rfl e1 hq, fun h1 Q R1 hq => RX12_lay (by decide) R1 tb rfl rfl e2 hq, i2⟩)
set_option maxRecDepth 10000 in
theorem cp_bed {t : Int} {N Ls : Nat} {Xs : Nat → Int32} (hN : 20000000 ≤ N) (t0 : 0 ≤ t) (t1 : t ≤ 1000) {m1 m2 : Int32} : CP t Ls Xs 151 275 [.ref 0, .int m1, .int m2] [.ref 113, .int m1, .int m2] := CP_mm (by decide) (by decide) (by decide) (by decide) (fun nc h s hR hI ta tb => by
  obtain ⟨a, s1, s2, e1, e2, i2⟩ := t_bed (N := N) (s := s) (x := m1.toInt) (y := m2.toInt) hI t0 t1
  exact ⟨a, s1, s2, fun Q hq => RX11_bed (by decide) hR ta rfl rfl e1 hq, fun h1 Q R1 hq => RX12_bed (by decide) R1 tb rfl rfl e2 hq, i2⟩)
set_option maxRecDepth 10000 in
theorem cp_fix {t : Int} {N Ls : Nat} {Xs : Nat → Int32} (hN : 20000000 ≤ N) (t0 : 0 ≤ t) (t1 : t ≤ 1000) {m1 m2 : Int32} (hm : m2.toInt = 0 ∨ m2.toInt = 1) : CP t Ls Xs 152 276 [.ref 0, .int m1, .int m2] [.ref 113, .int m1, .int m2] := CP_mm (by decide) (by decide) (by decide) (by decide) (fun nc h s hR hI ta tb => by
  obtain ⟨a, s1, s2, e1, e2, i2⟩ := ct_fix (N := N) (s := s) (x := m1.toInt) (y := m2.toInt) hI t0 t1 hm
  exact ⟨a, s1, s2, fun Q hq => RX11_fix (by decide) hR ta rfl rfl e1 hq, fun h1 Q R1 hq => RX12_fix (by decide) R1 tb rfl rfl e2 hq, i2⟩)
set_option maxRecDepth 10000 in
theorem cp_walk {t : Int} {N Ls : Nat} {Xs : Nat → Int32} (hN : 20000000 ≤ N) (t0 : 0 ≤ t) (t1 : t ≤ 1000) {m1 m2 m3 : Int32} : CP t Ls Xs 153 283 [.ref 0, .int m1, .int m2, .int m3] [.ref 113, .int m1, .int m2, .int m3] := CP_mm (by decide) (by decide) (by decide) (by decide) (fun nc h s hR hI ta tb => by
  obtain ⟨a, s1, s2, e1, e2, i2⟩ := ct_walk (N := N) (s := s) (x := m1.toInt) (y := m2.toInt) (z := m3.toInt) (by omega) hI t0 t1
  exact ⟨a, s1, s2, fun Q hq => RX11_walk (by decide) hR ta rfl rfl rfl e1 hq, fun h1 Q R1 hq => RX12_walk (by decide) R1 tb rfl rfl rfl e2 hq, i2⟩)
set_option maxRecDepth 10000 in
theorem cp_rest {t : Int} {N Ls : Nat} {Xs : Nat → Int32} (hN : 20000000 ≤ N) (t0 : 0 ≤ t) (t1 : t ≤ 1000) : CP t Ls Xs 154 284 [.ref 0] [.ref 113] := CP_mm (by decide) (by decide) (by decide) (by decide) (fun nc h s hR hI ta tb => by
  obtain ⟨a, s1, s2, e1, e2, i2⟩ := ct_rest (N := N) (s := s)  (by omega) hI t0 t1
  exact ⟨a, s1, s2, fun Q hq => RX11_rest (by decide) hR ta  e1 hq, fun h1 Q R1 hq => RX12_rest (by decide) R1 tb  e2 hq, i2⟩)
set_option maxRecDepth 10000 in
theorem cp_undo {t : Int} {N Ls : Nat} {Xs : Nat → Int32} (hN : 20000000 ≤ N) (t0 : 0 ≤ t) (t1 : t ≤ 1000) : CP t Ls Xs 156 285 [.ref 0] [.ref 113] := CP_mm (by decide) (by decide) (by decide) (by decide) (fun nc h s hR hI ta tb => by
  obtain ⟨a, s1, s2, e1, e2, i2⟩ := ct_undo (N := N) (s := s)  (by omega) hI t0 t1
  exact ⟨a, s1, s2, fun Q hq => RX11_undo (by decide) hR ta  e1 hq, fun h1 Q R1 hq => RX12_undo (by decide) R1 tb  e2 hq, i2⟩)
set_option maxRecDepth 10000 in
theorem cp_can {t : Int} {N Ls : Nat} {Xs : Nat → Int32} (hN : 20000000 ≤ N) (t0 : 0 ≤ t) (t1 : t ≤ 1000) : CP t Ls Xs 157 271 [.ref 0] [.ref 113] := CP_mm (by decide) (by decide) (by decide) (by decide) (fun nc h s hR hI ta tb => by
  obtain ⟨a, s1, s2, e1, e2, i2⟩ := ct_can (N := N) (s := s)  (by omega) hI
  exact ⟨a, s1, s2, fun Q hq => RX11_can (by decide) hR ta  e1 hq, fun h1 Q R1 hq => RX12_can (by decide) R1 tb  e2 hq, i2⟩)
set_option maxRecDepth 10000 in
theorem cp_choice {t : Int} {N Ls : Nat} {Xs : Nat → Int32} (hN : 20000000 ≤ N) (t0 : 0 ≤ t) (t1 : t ≤ 1000) {m1 m2 : Int32} : CP t Ls Xs 159 272 [.ref 0, .int m1, .int m2] [.ref 113, .int m1, .int m2] := CP_mm (by decide) (by decide) (by decide) (by decide) (fun nc h s hR hI ta tb => by
  obtain ⟨a, s1, s2, e1, e2, i2⟩ := ct_choice (N := N) (s := s) (x := m1.toInt) (y := m2.toInt) (by omega) hI
  exact ⟨a, s1, s2, fun Q hq => RX11_choice (by decide) hR ta rfl rfl e1 hq, fun h1 Q R1 hq => RX12_choice (by decide) R1 tb rfl rfl e2 hq, i2⟩)
set_option maxRecDepth 10000 in
theorem cp_draft {t : Int} {N Ls : Nat} {Xs : Nat → Int32} (hN : 20000000 ≤ N) (t0 : 0 ≤ t) (t1 : t ≤ 1000) {m1 : Int32} : CP t Ls Xs 161 287 [.ref 0, .int m1] [.ref 113, .int m1] := CP_mm (by decide) (by decide) (by decide) (by decide) (fun nc h s hR hI ta tb => by
  obtain ⟨a, s1, s2, e1, e2, i2⟩ := ct_draft (N := N) (s := s) (x := m1.toInt) (by omega) hI t0 t1
  exact ⟨a, s1, s2, fun Q hq => RX11_draft (by decide) hR ta rfl e1 hq, fun h1 Q R1 hq => RX12_draft (by decide) R1 tb rfl e2 hq, i2⟩)
set_option maxRecDepth 10000 in
theorem cp_redraw {t : Int} {N Ls : Nat} {Xs : Nat → Int32} (hN : 20000000 ≤ N) (t0 : 0 ≤ t) (t1 : t ≤ 1000) {m1 m2 m3 m4 : Int32} : CP t Ls Xs 162 290 [.ref 0, .int m1, .int m2, .int m3, .int m4] [.ref 113, .int m1, .int m2, .int m3, .int m4] := CP_mm (by decide) (by decide) (by decide) (by decide) (fun nc h s hR hI ta tb => by
  obtain ⟨a, s1, s2, e1, e2, i2⟩ := ct_redraw (N := N) (s := s) (x := m1.toInt) (k := m2.toInt) (y := m3.toInt) (z := m4.toInt) (by omega) hI t0 t1
  exact ⟨a, s1, s2, fun Q hq => RX11_redraw (by decide) hR ta rfl rfl rfl rfl e1 hq, fun h1 Q R1 hq => RX12_redraw (by decide) R1 tb rfl rfl rfl rfl e2 hq, i2⟩)
set_option maxRecDepth 10000 in
theorem cp_drafted {t : Int} {N Ls : Nat} {Xs : Nat → Int32} (hN : 20000000 ≤ N) (t0 : 0 ≤ t) (t1 : t ≤ 1000) {m1 m2 m3 : Int32} : CP t Ls Xs 163 288 [.ref 0, .int m1, .int m2, .int m3] [.ref 113, .int m1, .int m2, .int m3] := CP_mm (by decide) (by decide) (by decide) (by decide) (fun nc h s hR hI ta tb => by
  obtain ⟨a, e1, e2⟩ := ct_drafted (N := N) (s := s) (x := m1.toInt) (y := m2.toInt) (z := m3.toInt) hI
  exact ⟨a, s, s, fun Q hq => RX11_drafted (by decide) hR ta rfl rfl rfl e1 (fun z hz => hq z h hz hR), fun h1 Q R1 hq => RX12_drafted (by decide) R1 tb rfl rfl rfl e2 (fun z hz => hq z h1 hz R1), (HR1_mono (by omega) hI)⟩)
