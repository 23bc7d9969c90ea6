-- WHAT A WALK GAINS, second part
theorem tch_le (B : iv_M) (c d : Int) : 0 ≤ tch B c d ∧ tch B c d ≤ 8 := by
  have h1 := star_le (kd B) c
  have h2 := st3_le (kd B) (nb B c d) d
  unfold tch; split <;> omega
theorem cn_sl {B : iv_M} {k r o : Int} (h : cnI B k r o = 1) : slO B k r o := by
  intro hk
  unfold cnI at h
  rw [if_pos hk] at h
  split at h
  · next hh => exact hh
  · omega
theorem mm_wlk {B : iv_M} {k r o d : Int} (hW : Wf B) (h : isW B k r o) (hc : cnI B k r o = 1) (hd : d = if k = 1 then o else if k = 2 then sT B (B 116 r) (B 116 o) else -1) : (d = -1 ∨ (0 ≤ d ∧ d < 4 ∧ nb B (B 116 r) d ≠ -1)) ∧ mm (wlk B k r o) - mm B = tch (wlk B k r o) (B 116 r) d - tch B (B 116 r) d := by
  have hs := cn_sl hc
  have hW' := Wf_wlk hW h hs
  have hnb : ∀ c d, nb (wlk B k r o) c d = nb B c d := nb_ext (wlk_o (by omega) (by omega) (by omega)) (wlk_o (by omega) (by omega) (by omega))
  rw [mm_kmm hW.1 hW.2.1, mm_kmm hW'.1 hW'.2.1]
  unfold tch
  rw [hnb]
  obtain ⟨r0, r1, hk⟩ := h
  obtain ⟨g1, g2, g3, g4, g5, g6, g7⟩ := hW.room r0 r1
  rcases hk with ⟨rfl, o0, o1⟩ | ⟨rfl, o0, o1, hro⟩ | ⟨rfl, rfl⟩
  · rw [if_pos rfl] at hd
    subst hd
    obtain ⟨s1, s2⟩ := hs rfl
    obtain ⟨t1, t2, t3, t4, t5⟩ := nb_in hW.1 s1
    refine ⟨Or.inr ⟨o0, o1, s1⟩, ?_⟩
    rw [if_neg (by omega), if_neg (by omega)]
    refine kmm_two g1 g2 t1 t2 o0 o1 (nb_eq s1).2 t5.symm (fun c' d' _ _ n1 n2 => ?_)
    unfold wlk
    rw [if_pos rfl]
    refine kd_ext ?_ (fun _ => wS_o (by omega) (by omega)) (fun j => wS_o (by omega) (by omega))
    rw [wS_1, if_neg n2, if_neg n1]
  · rw [if_neg (by omega), if_pos rfl] at hd
    have hd1 : d ≠ -1 := by
      intro e; unfold cnI at hc; rw [if_neg (by omega), if_neg (by omega), ← hd, if_pos e] at hc; omega
    rw [hd] at hd1 ⊢
    obtain ⟨u1, u2, u3⟩ := sT_ok hd1
    obtain ⟨k1, k2, k3, k4, k5, k6, k7⟩ := hW.room o0 o1
    have hn : nb B (B 116 r) (sT B (B 116 r) (B 116 o)) ≠ -1 := by rw [u3]; omega
    obtain ⟨t1, t2, t3, t4, t5⟩ := nb_in hW.1 hn
    refine ⟨Or.inr ⟨u1, u2, hn⟩, ?_⟩
    rw [if_neg (by omega), if_neg (by omega)]
    refine kmm_two g1 g2 t1 t2 u1 u2 (nb_eq hn).2 t5.symm (fun c' d' _ _ n1 n2 => ?_)
    rw [u3] at n2
    unfold wlk
    rw [if_neg (by omega), if_pos rfl]
    refine kd_ext ?_ (fun _ => wC_o (by omega) (by omega)) (fun j => wC_o (by omega) (by omega))
    rw [wC_1, if_neg n1, if_neg n2]
  · rw [if_neg (by omega), if_neg (by omega)] at hd
    subst hd
    refine ⟨Or.inl rfl, ?_⟩
    rw [if_pos rfl, if_pos rfl]
    have := kmm_one (K := kd B) (K' := kd (wlk B 3 r 0)) g1 g2 (fun c' d' c0 c1 n1 => by
      unfold wlk
      rw [if_neg (by omega), if_neg (by omega)]
      refine kd_ext (wT_o (by omega)) (fun hn => ?_) (fun j => wT_o (by omega))
      rw [wT_7, if_neg (fun e => ?_)]
      rcases hW.2.1 c' c0 c1 with e3 | e3
      · omega
      · rw [e] at e3; exact n1 e3.2.2.1.symm)
    omega
theorem FX1_gain_ok {N q : Nat} {s B : iv_M} {k r o : Int} (hN : 100 ≤ N) (hT : TF q) (hW : Wf B) (hF : FRc s q B) (hP : FP s q B) (h : isW B k r o) (hc : cnI B k r o = 1) : ∃ s', FX1_gain N s q (256 * k + 16 * r + o) = some (mm (wlk B k r o) - mm B, s') ∧ FRc s' q B ∧ FP s' q B ∧ Fo q (q + 5) s s' := by
  have hr2 := hW.1.2.2.2.2.2.1
  have hs := cn_sl hc
  have hW' := Wf_wlk hW h hs
  obtain ⟨s1, a1, a2, a3, a4⟩ := go_ok hN hT hW hF hP h hs
  obtain ⟨s2, b1, b2, b3, b4⟩ := bk_ok hN hT hW h hs a2 a3
  obtain ⟨m1, m2⟩ := mm_wlk hW h hc rfl
  have hnb : ∀ c d, nb (wlk B k r o) c d = nb B c d := nb_ext (wlk_o (by omega) (by omega) (by omega)) (wlk_o (by omega) (by omega) (by omega))
  obtain ⟨g1, g2, g3, g4, g5, g6, g7⟩ := hW.room h.1 h.2.1
  obtain ⟨e1, e2⟩ := hF.cell hW h.1 h.2.1
  have t1 := FX1_touching_ok hN hW.1 hW.2.1 hF g1 g2 m1
  have t2 := FX1_touching_ok (d := if k = 1 then o else if k = 2 then sT B (B 116 r) (B 116 o) else -1) hN hW'.1 hW'.2.1 a2 g1 g2 (by rw [hnb]; exact m1)
  have l1 := tch_le B (B 116 r) (if k = 1 then o else if k = 2 then sT B (B 116 r) (B 116 o) else -1)
  have l2 := tch_le (wlk B k r o) (B 116 r) (if k = 1 then o else if k = 2 then sT B (B 116 r) (B 116 o) else -1)
  refine ⟨s2, ?_, b2, b3, a4.trans b4⟩
  have fin : FX1_gain_b53 N s q (256 * k + 16 * r + o) (B 116 r) (if k = 1 then o else if k = 2 then sT B (B 116 r) (B 116 o) else -1) = some (mm (wlk B k r o) - mm B, s2) := by
    unfold FX1_gain_b53
    rw [t1, Option.bind_some, a1, Option.bind_some, t2, Option.bind_some, b1, Option.bind_some, w32_id (by omega) (by omega), m2]
  obtain ⟨r0, r1, hk⟩ := h
  obtain ⟨w1, w2, w3⟩ := wcode (k := k) (r := r) (o := o) (by omega) (by omega) r0 (by omega) (by omega) (by omega)
  unfold FX1_gain
  rw [w1, w2, w3, rd_ok r0 (by omega), Option.bind_some, e1]
  rcases hk with ⟨rfl, o0, o1⟩ | ⟨rfl, o0, o1, hro⟩ | ⟨rfl, rfl⟩
  · rw [if_pos rfl]; rw [if_pos rfl] at fin; exact fin
  · obtain ⟨e3, e4⟩ := hF.cell hW o0 o1
    rw [if_neg (by omega), if_pos rfl, rd_ok o0 (by omega), Option.bind_some, e3, FX1_sideTo_ok hN hF g1 g2, Option.bind_some]
    rw [if_neg (by omega), if_pos rfl] at fin; exact fin
  · rw [if_neg (by omega), if_neg (by omega)]; rw [if_neg (by omega), if_neg (by omega)] at fin; exact fin
