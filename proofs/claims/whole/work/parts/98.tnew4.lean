-- IMAGE of the class, and the call
set_option maxRecDepth 10000 in
theorem hX11_image : iv_Tb 187 tX11_image := iv_tb_of (m := mX11_image) rfl
set_option maxRecDepth 10000 in
theorem gX11_image : PG.2 187 = some mX11_image := iv_pi_of (t := tX11_image) rfl (by decide)
set_option maxRecDepth 10000 in
set_option maxHeartbeats 4000000 in
/-- from the place where the image's house stands -/
theorem image_tail {d N nc Ls q : Nat} {Xs : Nat → Int32} (hd : 5 ≤ d) {h : iv_H} {s s1 : iv_M} (hR : Rep nc Ls Xs h s) (t0 : T11 nc 0) {m1 : Int32} {x1 : Int} (p1 : m1.toInt = x1) (x0 : 0 ≤ x1) (x4 : x1 < 4) (hq : s 53 x1 = (q : Int)) {Q : Option Value → iv_H → Prop} (e : FX2_copyFrom N s q ((s 0 4).toNat) = some s1) (hQ : ∀ (z : Int32) (h1 : iv_H), z.toInt = s1 ((s1 0 4).toNat) 6 → Rep nc Ls Xs h1 s1 → Q (some (.int z)) h1) : Rn d 187 (some .int) 33 [some (.ref 0), some (.int m1)] [] h Q := by
  have hT := hX11_image
  obtain ⟨g1, f1⟩ := rp_aN (v := s 53 x1) hR (T11_6 t0) (T11_6l t0) p1 (rd_ok x0 x4)
  have nn : ¬ s (0 + 53) x1 < 0 := by show ¬ s 53 x1 < 0; omega
  have g1 : aN h (0 + 53) m1 = some (some q) := by
    rw [g1, hq, rvo_nat]
  have f1 : T2 nc q := by
    rcases f1 with z | z
    · omega
    · rw [hq, Int.toNat_natCast] at z; exact z
  refine Rn.n hT 1 (pc' := 34) (L' := [some (.ref 0), some (.int m1)]) (st' := [.ref 0]) rfl ?_
  refine Rn.hp hT rfl rfl (gR_hp (rp_gR hR (T11_o t0) rfl)) ?_
  refine Rn.n hT 1 (pc' := 38) (L' := [some (.ref 0), some (.int m1)]) (st' := [.int m1, .ref (0 + 53)]) rfl ?_
  refine Rn.hp hT rfl rfl (aN_hp g1) ?_
  show Rn d _ _ 39 [some (.ref 0), some (.int m1)] [.ref q] h Q
  refine Rn.n hT 1 (pc' := 40) (L' := [some (.ref 0), some (.int m1)]) (st' := [.ref 0, .ref q]) rfl ?_
  refine Rn.hp hT rfl rfl (gR_hp (rp_gP (k := 4) hR (T11_o t0) rfl (nn_114 hR t0))) ?_
  refine Rn.call hT rfl rfl rfl (Nat.le_of_ble_eq_true rfl) (rcv_v gX2_copyFrom (by omega) (rp_ck hR (T2_o f1))) (RX2_copyFrom (by omega) hR f1 (ty_114 hR t0) e (fun h2 R2 => ?_))
  show Rn d _ _ 46 [some (.ref 0), some (.int m1)] [] h2 Q
  refine Rn.n hT 1 (pc' := 47) (L' := [some (.ref 0), some (.int m1)]) (st' := [.ref 0]) rfl ?_
  refine Rn.hp hT rfl rfl (gR_hp (rp_gP (k := 4) R2 (T11_o t0) rfl (nn_114 R2 t0))) ?_
  obtain ⟨z, g2, p2⟩ : ∃ z : Int32, gI h2 2 6 ((s1 0 4).toNat) = some z ∧ z.toInt = s1 ((s1 0 4).toNat) 6 := rp_gI (k := 6) R2 (T2_o (ty_114 R2 t0)) rfl
  refine Rn.hp hT rfl rfl (gI_hp g2) ?_
  exact Rn.ret hT rfl rfl rfl (hQ z h2 p2 R2)
set_option maxRecDepth 10000 in
set_option maxHeartbeats 4000000 in
theorem image_none {d nc Ls : Nat} {Xs : Nat → Int32} {h : iv_H} {s : iv_M} (hR : Rep nc Ls Xs h s) {m1 : Int32} {x1 : Int} (p1 : m1.toInt = x1) (hx : ¬ (0 ≤ x1 ∧ x1 < 4)) {Q : Option Value → iv_H → Prop} (hQ : ∀ z : Int32, z.toInt = -1 → Q (some (.int z)) h) : Cl (d + 1) 187 [.ref 0, .int m1] h Q := by
  have hT := hX11_image
  refine Cl.into (by decide) gX11_image rfl ?_
  show Rn d 187 (some .int) 0 [some (.ref 0), some (.int m1)] [] h Q
  refine Rn.n hT 1 (pc' := 1) (L' := [some (.ref 0), some (.int m1)]) (st' := [.int m1]) rfl ?_
  have last : Rn d 187 (some .int) 9 [some (.ref 0), some (.int m1)] [] h Q := by
    refine Rn.n hT 1 (pc' := 10) (L' := [some (.ref 0), some (.int m1)]) (st' := [.int (-1 : Int32)]) rfl ?_
    exact Rn.ret hT rfl rfl rfl (hQ (-1 : Int32) L32_m1)
  by_cases c : x1 < 0
  · refine Rn.bt hT rfl rfl rfl (decide_eq_true ((ti_l p1 L32_0).mpr c)) ?_
    exact last
  · refine Rn.bf hT rfl rfl rfl (decide_eq_false (fun z => c ((ti_l p1 L32_0).mp z))) ?_
    refine Rn.n hT 2 (pc' := 6) (L' := [some (.ref 0), some (.int m1)]) (st' := [.int (4 : Int32), .int m1]) rfl ?_
    refine Rn.bf hT rfl rfl rfl (decide_eq_false (fun z => by have := (ti_l p1 L32_4).mp z; omega)) ?_
    exact last
