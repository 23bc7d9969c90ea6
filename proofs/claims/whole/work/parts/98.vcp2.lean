-- PAIRS OF CALLS, the rest
set_option maxRecDepth 10000 in
theorem cp_nights {t : Int} {N Ls : Nat} {Xs : Nat → Int32} (hN : 20000000 ≤ N) (t0 : 0 ≤ t) (t1 : t ≤ 1000) {m1 : Int32} : CP t Ls Xs 164 298 [.ref 0, .int m1] [.ref 113, .int m1] := CP_mm (by decide) (by decide) (by decide) (by decide) (fun nc h s hR hI ta tb => by
  obtain ⟨a, s1, s2, e1, e2, i2⟩ := ct_nights (N := N) (s := s) (k := m1.toInt) (by omega) hI t0 t1
  exact ⟨a, s1, s2, fun Q hq => RX11_nights (by decide) hR ta rfl e1 hq, fun h1 Q R1 hq => RX12_nights (by decide) R1 tb rfl e2 hq, i2⟩)
set_option maxRecDepth 10000 in
theorem cp_row {t : Int} {N Ls : Nat} {Xs : Nat → Int32} (hN : 20000000 ≤ N) (t0 : 0 ≤ t) (t1 : t ≤ 1000) {m1 m2 m3 : Int32} : CP t Ls Xs 165 299 [.ref 0, .int m1, .int m2, .int m3] [.ref 113, .int m1, .int m2, .int m3] := CP_mm (by decide) (by decide) (by decide) (by decide) (fun nc h s hR hI ta tb => by
  obtain ⟨a, s1, s2, e1, e2, i2⟩ := ct_row (N := N) (s := s) (k := m1.toInt) (x2 := m2.toInt) (x3 := m3.toInt) (by omega) hI t0 t1
  exact ⟨a, s1, s2, fun Q hq => RX11_row (by decide) hR ta rfl rfl rfl e1 hq, fun h1 Q R1 hq => RX12_row (by decide) R1 tb rfl rfl rfl e2 hq, i2⟩)
set_option maxRecDepth 10000 in
theorem cp_marks {t : Int} {N Ls : Nat} {Xs : Nat → Int32} (hN : 20000000 ≤ N) (t0 : 0 ≤ t) (t1 : t ≤ 1000) {m1 : Int32} : CP t Ls Xs 166 302 [.ref 0, .int m1] [.ref 113, .int m1] := CP_mm (by decide) (by decide) (by decide) (by decide) (fun nc h s hR hI ta tb => by
  obtain ⟨a, s1, s2, e1, e2, i2⟩ := ct_marks (N := N) (s := s) (k := m1.toInt) (by omega) hI t0 t1
  exact ⟨a, s1, s2, fun Q hq => RX11_marks (by decide) hR ta rfl e1 hq, fun h1 Q R1 hq => RX12_marks (by decide) R1 tb rfl e2 hq, i2⟩)
set_option maxRecDepth 10000 in
theorem cp_floors {t : Int} {N Ls : Nat} {Xs : Nat → Int32} (hN : 20000000 ≤ N) (t0 : 0 ≤ t) (t1 : t ≤ 1000) : CP t Ls Xs 167 306 [.ref 0] [.ref 113] := CP_mm (by decide) (by decide) (by decide) (by decide) (fun nc h s hR hI ta tb => by
  obtain ⟨a, s1, s2, e1, e2, i2⟩ := ct_floors (N := N) (s := s)  (by omega) hI t0
  exact ⟨a, s1, s2, fun Q hq => RX11_floors (by decide) hR ta  e1 hq, fun h1 Q R1 hq => RX12_floors (by decide) R1 tb  e2 hq, i2⟩)
set_option maxRecDepth 10000 in
theorem cp_steps {t : Int} {N Ls : Nat} {Xs : Nat → Int32} (hN : 20000000 ≤ N) (t0 : 0 ≤ t) (t1 : t ≤ 1000) {m1 m2 : Int32} : CP t Ls Xs 168 311 [.ref 0, .int m1, .int m2] [.ref 113, .int m1, .int m2] := CP_mm (by decide) (by decide) (by decide) (by decide) (fun nc h s hR hI ta tb => by
  obtain ⟨a, s1, s2, e1, e2, i2⟩ := ct_steps (N := N) (s := s) (x := m1.toInt) (y := m2.toInt) (by omega) hI
  exact ⟨a, s1, s2, fun Q hq => RX11_steps (by decide) hR ta rfl rfl e1 hq, fun h1 Q R1 hq => RX12_steps (by decide) R1 tb rfl rfl e2 hq, i2⟩)
set_option maxRecDepth 10000 in
theorem cp_reach {t : Int} {N Ls : Nat} {Xs : Nat → Int32} (hN : 20000000 ≤ N) (t0 : 0 ≤ t) (t1 : t ≤ 1000) {m1 m2 : Int32} : CP t Ls Xs 169 312 [.ref 0, .int m1, .int m2] [.ref 113, .int m1, .int m2] := CP_mm (by decide) (by decide) (by decide) (by decide) (fun nc h s hR hI ta tb => by
  obtain ⟨a, s1, s2, e1, e2, i2⟩ := ct_reach (N := N) (s := s) (x := m1.toInt) (y := m2.toInt) (by omega) hI
  exact ⟨a, s1, s2, fun Q hq => RX11_reach (by decide) hR ta rfl rfl e1 hq, fun h1 Q R1 hq => RX12_reach (by decide) R1 tb rfl rfl e2 hq, i2⟩)
set_option maxRecDepth 10000 in
theorem cp_gossip {t : Int} {N Ls : Nat} {Xs : Nat → Int32} (hN : 20000000 ≤ N) (t0 : 0 ≤ t) (t1 : t ≤ 1000) {m1 m2 : Int32} : CP t Ls Xs 170 313 [.ref 0, .int m1, .int m2] [.ref 113, .int m1, .int m2] := CP_mm (by decide) (by decide) (by decide) (by decide) (fun nc h s hR hI ta tb => by
  obtain ⟨a, e1, e2⟩ := ct_gossip (N := N) (s := s) (x := m1.toInt) (y := m2.toInt) (by omega) hI
  exact ⟨a, s, s, fun Q hq => RX11_gossip (by decide) hR ta rfl rfl e1 (fun z hz => hq z h hz hR), fun h1 Q R1 hq => RX12_gossip (by decide) R1 tb rfl rfl e2 (fun z hz => hq z h1 hz R1), (HR1_mono (by omega) hI)⟩)
set_option maxRecDepth 10000 in
theorem cp_almanac {t : Int} {N Ls : Nat} {Xs : Nat → Int32} (hN : 20000000 ≤ N) (t0 : 0 ≤ t) (t1 : t ≤ 1000) {m1 m2 m3 : Int32} : CP t Ls Xs 171 314 [.ref 0, .int m1, .int m2, .int m3] [.ref 113, .int m1, .int m2, .int m3] := CP_mm (by decide) (by decide) (by decide) (by decide) (fun nc h s hR hI ta tb => by
  obtain ⟨a, s1, s2, e1, e2, i2⟩ := ct_almanac (N := N) (s := s) (x := m1.toInt) (y := m2.toInt) (z := m3.toInt) hI t0
  exact ⟨a, s1, s2, fun Q hq => RX11_almanac (by decide) hR ta rfl rfl rfl e1 hq, fun h1 Q R1 hq => RX12_almanac (by decide) R1 tb rfl rfl rfl e2 hq, i2⟩)
set_option maxRecDepth 10000 in
theorem cp_would {t : Int} {N Ls : Nat} {Xs : Nat → Int32} (hN : 20000000 ≤ N) (t0 : 0 ≤ t) (t1 : t ≤ 1000) {m1 m2 m3 : Int32} : CP t Ls Xs 172 317 [.ref 0, .int m1, .int m2, .int m3] [.ref 113, .int m1, .int m2, .int m3] := CP_mm (by decide) (by decide) (by decide) (by decide) (fun nc h s hR hI ta tb => by
  obtain ⟨a, s1, s2, e1, e2, i2⟩ := ct_would (N := N) (s := s) (x := m1.toInt) (y := m2.toInt) (z := m3.toInt) (by omega) hI t0 t1
  exact ⟨a, s1, s2, fun Q hq => RX11_would (by decide) hR ta rfl rfl rfl e1 hq, fun h1 Q R1 hq => RX12_would (by decide) R1 tb rfl rfl rfl e2 hq, i2⟩)
set_option maxRecDepth 10000 in
theorem cp_follow {t : Int} {N Ls : Nat} {Xs : Nat → Int32} (hN : 20000000 ≤ N) (t0 : 0 ≤ t) (t1 : t ≤ 1000) : CP t Ls Xs 173 318 [.ref 0] [.ref 113] := CP_mm (by decide) (by decide) (by decide) (by decide) (fun nc h s hR hI ta tb => by
  obtain ⟨a, s1, s2, e1, e2, i2⟩ := ct_follow (N := N) (s := s)  (by omega) hI t0 t1
  exact ⟨a, s1, s2, fun Q hq => RX11_follow (by decide) hR ta  e1 hq, fun h1 Q R1 hq => RX12_follow (by decide) R1 tb  e2 hq, i2⟩)
set_option maxRecDepth 10000 in
theorem cp_wish {t : Int} {N Ls : Nat} {Xs : Nat → Int32} (hN : 20000000 ≤ N) (t0 : 0 ≤ t) (t1 : t ≤ 1000) {m1 m2 m3 m4 : Int32} : CP t Ls Xs 174 319 [.ref 0, .int m1, .int m2, .int m3, .int m4] [.ref 113, .int m1, .int m2, .int m3, .int m4] := CP_mm (by decide) (by decide) (by decide) (by decide) (fun nc h s hR hI ta tb => by
  obtain ⟨a, s1, s2, e1, e2, i2⟩ := ct_wish (N := N) (s := s) (x := m1.toInt) (y := m2.toInt) (z := m3.toInt) (w := m4.toInt) hI t0
  exact ⟨a, s1, s2, fun Q hq => RX11_wish (by decide) hR ta rfl rfl rfl rfl e1 hq, fun h1 Q R1 hq => RX12_wish (by decide) R1 tb rfl rfl rfl rfl e2 hq, i2⟩)
set_option maxRecDepth 10000 in
theorem cp_beds {t : Int} {N Ls : Nat} {Xs : Nat → Int32} (hN : 20000000 ≤ N) (t0 : 0 ≤ t) (t1 : t ≤ 1000) {m1 : Int32} : CP t Ls Xs 175 324 [.ref 0, .int m1] [.ref 113, .int m1] := CP_mm (by decide) (by decide) (by decide) (by decide) (fun nc h s hR hI ta tb => by
  obtain ⟨a, s1, s2, e1, e2, i2⟩ := ct_beds (N := N) (s := s) (x := m1.toInt) (by omega) hI t0 t1
  exact ⟨a, s1, s2, fun Q hq => RX11_beds (by decide) hR ta rfl e1 hq, fun h1 Q R1 hq => RX12_beds (by decide) R1 tb rfl e2 hq, i2⟩)
set_option maxRecDepth 10000 in
theorem cp_almost {t : Int} {N Ls : Nat} {Xs : Nat → Int32} (hN : 20000000 ≤ N) (t0 : 0 ≤ t) (t1 : t ≤ 1000) {m1 m2 : Int32} : CP t Ls Xs 176 325 [.ref 0, .int m1, .int m2] [.ref 113, .int m1, .int m2] := CP_mm (by decide) (by decide) (by decide) (by decide) (fun nc h s hR hI ta tb => by
  obtain ⟨a, s1, s2, e1, e2, i2⟩ := ct_almost (N := N) (s := s) (x := m1.toInt) (y := m2.toInt) (by omega) hI t0 t1
  exact ⟨a, s1, s2, fun Q hq => RX11_almost (by decide) hR ta rfl rfl e1 hq, fun h1 Q R1 hq => RX12_almost (by decide) R1 tb rfl rfl e2 hq, i2⟩)
set_option maxRecDepth 10000 in
theorem cp_guards {t : Int} {N Ls : Nat} {Xs : Nat → Int32} (hN : 20000000 ≤ N) (t0 : 0 ≤ t) (t1 : t ≤ 1000) {m1 : Int32} : CP t Ls Xs 177 326 [.ref 0, .int m1] [.ref 113, .int m1] := CP_mm (by decide) (by decide) (by decide) (by decide) (fun nc h s hR hI ta tb => by
  obtain ⟨a, s1, e1, e2, i2⟩ := ct_guards (N := N) (s := s) (x := m1.toInt) (by omega) hI
  exact ⟨a, s1, s1, fun Q hq => RX11_guards (by decide) hR ta rfl e1 hq, fun h1 Q R1 hq => RX12_guards (by decide) R1 tb rfl e2 (fun z hz => hq z h1 hz R1), i2⟩)
set_option maxRecDepth 10000 in
theorem cp_drift {t : Int} {N Ls : Nat} {Xs : Nat → Int32} (hN : 20000000 ≤ N) (t0 : 0 ≤ t) (t1 : t ≤ 1000) {m1 : Int32} : CP t Ls Xs 178 328 [.ref 0, .int m1] [.ref 113, .int m1] := CP_mm (by decide) (by decide) (by decide) (by decide) (fun nc h s hR hI ta tb => by
  obtain ⟨a, e1, e2⟩ := ct_drift (N := N) (s := s) (x := m1.toInt) (by omega) hI
  exact ⟨a, s, s, fun Q hq => RX11_drift (by decide) hR ta rfl e1 (fun z hz => hq z h hz hR), fun h1 Q R1 hq => RX12_drift (by decide) R1 tb rfl e2 (fun z hz => hq z h1 hz R1), (HR1_mono (by omega) hI)⟩)
set_option maxRecDepth 10000 in
theorem cp_woke {t : Int} {N Ls : Nat} {Xs : Nat → Int32} (hN : 20000000 ≤ N) (t0 : 0 ≤ t) (t1 : t ≤ 1000) {m1 m2 m3 : Int32} : CP t Ls Xs 179 329 [.ref 0, .int m1, .int m2, .int m3] [.ref 113, .int m1, .int m2, .int m3] := CP_mm (by decide) (by decide) (by decide) (by decide) (fun nc h s hR hI ta tb => by
  obtain ⟨a, s1, s2, e1, e2, i2⟩ := ct_woke (N := N) (s := s) (x := m1.toInt) (y := m2.toInt) (z := m3.toInt) hI t0 t1
  exact ⟨a, s1, s2, fun Q hq => RX11_woke (by decide) hR ta rfl rfl rfl e1 hq, fun h1 Q R1 hq => RX12_woke (by decide) R1 tb rfl rfl rfl e2 hq, i2⟩)
set_option maxRecDepth 10000 in
theorem cp_how {t : Int} {N Ls : Nat} {Xs : Nat → Int32} (hN : 20000000 ≤ N) (t0 : 0 ≤ t) (t1 : t ≤ 1000) {m1 m2 : Int32} : CP t Ls Xs 180 334 [.ref 0, .int m1, .int m2] [.ref 113, .int m1, .int m2] := CP_mm (by decide) (by decide) (by decide) (by decide) (fun nc h s hR hI ta tb => by
  obtain ⟨a, s1, s2, e1, e2, i2⟩ := ct_how (N := N) (s := s) (n := m1.toInt) (w := m2.toInt) (by omega) hI t0 t1
  exact ⟨a, s1, s2, fun Q hq => RX11_how (by decide) hR ta rfl rfl e1 hq, fun h1 Q R1 hq => RX12_how (by decide) R1 tb rfl rfl e2 hq, i2⟩)
set_option maxRecDepth 10000 in
theorem cp_built {t : Int} {N Ls : Nat} {Xs : Nat → Int32} (hN : 20000000 ≤ N) (t0 : 0 ≤ t) (t1 : t ≤ 1000) {m1 m2 m3 : Int32} : CP t Ls Xs 181 337 [.ref 0, .int m1, .int m2, .int m3] [.ref 113, .int m1, .int m2, .int m3] := CP_mm (by decide) (by decide) (by decide) (by decide) (fun nc h s hR hI ta tb => by
  obtain ⟨a, s2, e1, e2, i2⟩ := ct_built (N := N) (s := s) (x := m1.toInt) (y := m2.toInt) (w := m3.toInt) (by omega) hI
  exact ⟨a, s, s2, fun Q hq => RX11_built (by decide) hR ta rfl rfl rfl e1 (fun z hz => hq z h hz hR), fun h1 Q R1 hq => RX12_built (by decide) R1 tb rfl rfl rfl e2 hq, i2⟩)
set_option maxRecDepth 10000 in
theorem cp_best {t : Int} {N Ls : Nat} {Xs : Nat → Int32} (hN : 20000000 ≤ N) (t0 : 0 ≤ t) (t1 : t ≤ 1000) : CP t Ls Xs 182 338 [.ref 0] [.ref 113] := CP_mm (by decide) (by decide) (by decide) (by decide) (fun nc h s hR hI ta tb => by
  obtain ⟨a, s2, e1, e2, i2⟩ := ct_best (N := N) (s := s)  (by omega) hI
  exact ⟨a, s, s2, fun Q hq => RX11_best (by decide) hR ta  e1 (fun z hz => hq z h hz hR), fun h1 Q R1 hq => RX12_best (by decide) R1 tb  e2 hq, i2⟩)
set_option maxRecDepth 10000 in
theorem cp_seed {t : Int} {N Ls : Nat} {Xs : Nat → Int32} (hN : 20000000 ≤ N) (t0 : 0 ≤ t) (t1 : t ≤ 1000) {m1 : Int32} : CP t Ls Xs 183 339 [.ref 0, .int m1] [.ref 113, .int m1] := CP_mm (by decide) (by decide) (by decide) (by decide) (fun nc h s hR hI ta tb => by
  obtain ⟨a, s1, s2, e1, e2, i2⟩ := t_seed (N := N) (s := s) (x := m1.toInt) hI t0 t1 (ti_hi _)
  exact ⟨a, s1, s2, fun Q hq => RX11_seed (by decide) hR ta rfl e1 hq, fun h1 Q R1 hq => RX12_seed (by decide) R1 tb rfl e2 hq, i2⟩)
set_option maxRecDepth 10000 in
theorem cp_drawn {t : Int} {N Ls : Nat} {Xs : Nat → Int32} (hN : 20000000 ≤ N) (t0 : 0 ≤ t) (t1 : t ≤ 1000) {m1 m2 m3 m4 m5 : Int32} : CP t Ls Xs 184 343 [.ref 0, .int m1, .int m2, .int m3, .int m4, .int m5] [.ref 113, .int m1, .int m2, .int m3, .int m4, .int m5] := CP_mm (by decide) (by decide) (by decide) (by decide) (fun nc h s hR hI ta tb => by
  obtain ⟨a, s1, s2, e1, e2, i2⟩ := ct_drawn (N := N) (s := s) (k := m1.toInt) (n := m2.toInt) (c := m3.toInt) (d := m4.toInt) (w := m5.toInt) (by omega) hI t0 t1
  exact ⟨a, s1, s2, fun Q hq => RX11_drawn (by decide) hR ta rfl rfl rfl rfl rfl e1 hq, fun h1 Q R1 hq => RX12_drawn (by decide) R1 tb rfl rfl rfl rfl rfl e2 hq, i2⟩)
set_option maxRecDepth 10000 in
theorem cp_count {t : Int} {N Ls : Nat} {Xs : Nat → Int32} (hN : 20000000 ≤ N) (t0 : 0 ≤ t) (t1 : t ≤ 1000) {m1 : Int32} : CP t Ls Xs 185 344 [.ref 0, .int m1] [.ref 113, .int m1] := CP_mm (by decide) (by decide) (by decide) (by decide) (fun nc h s hR hI ta tb => by
  obtain ⟨a, e1, e2⟩ := t_count (N := N) (s := s) (w := m1.toInt) hI
  exact ⟨a, s, s, fun Q hq => RX11_count (by decide) hR ta rfl e1 (fun z hz => hq z h hz hR), fun h1 Q R1 hq => RX12_count (by decide) R1 tb rfl e2 (fun z hz => hq z h1 hz R1), (HR1_mono (by omega) hI)⟩)
set_option maxRecDepth 10000 in
theorem cp_back {t : Int} {N Ls : Nat} {Xs : Nat → Int32} (hN : 20000000 ≤ N) (t0 : 0 ≤ t) (t1 : t ≤ 1000) {m1 : Int32} : CP t Ls Xs 188 348 [.ref 0, .int m1] [.ref 113, .int m1] := CP_mm (by decide) (by decide) (by decide) (by decide) (fun nc h s hR hI ta tb => by
  obtain ⟨a, s1, s2, e1, e2, i2⟩ := ct_back (N := N) (s := s) (k := m1.toInt) (by omega) hI t0 t1
  exact ⟨a, s1, s2, fun Q hq => RX11_back (by decide) hR ta rfl e1 hq, fun h1 Q R1 hq => RX12_back (by decide) R1 tb rfl e2 hq, i2⟩)
