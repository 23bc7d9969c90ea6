-- MIRRORS, 7 (written by wip/whole/mir.py)
set_option maxRecDepth 10000 in
theorem hX11_image : iv_Tb 187 tX11_image := iv_tb_of (m := mX11_image) rfl
set_option maxRecDepth 10000 in
theorem gX11_image : PG.2 187 = some mX11_image := iv_pi_of (t := tX11_image) rfl (by decide)
def fX11_image_b9 (N : Nat) (h : iv_H)   : Option (Int32 × iv_H) := (some ((-1 : Int32), h))
set_option maxRecDepth 10000 in
set_option maxHeartbeats 4000000 in
theorem rX11_image_b9 {d N : Nat} (hd : 5 ≤ d) {h : iv_H}   {r : Int32 × iv_H} {Q : Option Value → iv_H → Prop} (hq : Q (some (.int r.1)) r.2) (e : fX11_image_b9 N h   = some r) : Rn d 187 (some .int) 9 [none, none] [] h Q := by
  have hT := hX11_image
  unfold fX11_image_b9 at e
  refine Rn.n hT 1 (pc' := 10) (L' := [none, none]) (st' := [.int (-1 : Int32)]) rfl ?_
  obtain rfl := Option.some.inj e
  exact Rn.ret hT rfl rfl rfl hq
def fX11_image_b33 (N : Nat) (h : iv_H) (q0 : Nat) (x1 : Int32)  : Option (Int32 × iv_H) := ((gR h 11 6 q0).bind fun v_5466 => ((aR h v_5466 x1).bind fun v_5468 => ((gR h 11 4 q0).bind fun v_5470 => ((cko h v_5468 2).bind fun _ => (fX2_copyFrom N h v_5468 v_5470).bind fun h_5475 => ((gR h_5475 11 4 q0).bind fun v_5476 => ((gI h_5475 2 6 v_5476).bind fun v_5478 => (some (v_5478, h_5475))))))))
set_option maxRecDepth 10000 in
set_option maxHeartbeats 4000000 in
theorem rX11_image_b33 {d N : Nat} (hd : 5 ≤ d) {h : iv_H} {q0 : Nat} {x1 : Int32}  {r : Int32 × iv_H} {Q : Option Value → iv_H → Prop} (hq : Q (some (.int r.1)) r.2) (e : fX11_image_b33 N h q0 x1  = some r) : Rn d 187 (some .int) 33 [some (.ref q0), some (.int x1)] [] h Q := by
  have hT := hX11_image
  unfold fX11_image_b33 at e
  refine Rn.n hT 1 (pc' := 34) (L' := [some (.ref q0), some (.int x1)]) (st' := [.ref q0]) rfl ?_
  obtain ⟨v_5466, e_5467, e⟩ := Option.bind_eq_some_iff.mp e
  refine Rn.hp hT rfl rfl (gR_hp e_5467) ?_
  refine Rn.n hT 1 (pc' := 38) (L' := [some (.ref q0), some (.int x1)]) (st' := [.int x1, .ref v_5466]) rfl ?_
  obtain ⟨v_5468, e_5469, e⟩ := Option.bind_eq_some_iff.mp e
  refine Rn.hp hT rfl rfl (aR_hp e_5469) ?_
  refine Rn.n hT 1 (pc' := 40) (L' := [some (.ref q0), some (.int x1)]) (st' := [.ref q0, .ref v_5468]) rfl ?_
  obtain ⟨v_5470, e_5471, e⟩ := Option.bind_eq_some_iff.mp e
  refine Rn.hp hT rfl rfl (gR_hp e_5471) ?_
  obtain ⟨_, e_5473, e⟩ := Option.bind_eq_some_iff.mp e
  obtain ⟨h_5475, e_5472, e⟩ := Option.bind_eq_some_iff.mp e
  refine Rn.call hT rfl rfl rfl (Nat.le_of_ble_eq_true rfl) (rcv_v gX2_copyFrom (by omega) e_5473) (rX2_copyFrom (by omega) e_5472 ?_)
  show Rn d _ _ 46 [some (.ref q0), some (.int x1)] [] h_5475 Q
  refine Rn.n hT 1 (pc' := 47) (L' := [some (.ref q0), some (.int x1)]) (st' := [.ref q0]) rfl ?_
  obtain ⟨v_5476, e_5477, e⟩ := Option.bind_eq_some_iff.mp e
  refine Rn.hp hT rfl rfl (gR_hp e_5477) ?_
  obtain ⟨v_5478, e_5479, e⟩ := Option.bind_eq_some_iff.mp e
  refine Rn.hp hT rfl rfl (gI_hp e_5479) ?_
  obtain rfl := Option.some.inj e
  exact Rn.ret hT rfl rfl rfl hq
def fX11_image (N : Nat) (h : iv_H) (q0 : Nat) (x1 : Int32) : Option (Int32 × iv_H) := (if x1 < 0 then (fX11_image_b9 N h) else (if x1 < (4 : Int32) then ((gR h 11 6 q0).bind fun v_5450 => ((aN h v_5450 x1).bind fun o_5465 => match o_5465 with | none => ((gR h 11 6 q0).bind fun v_5454 => ((nO h 2).bind fun p_5459 => (fun (v_5458 : Nat) (h_5456 : iv_H) => ((fX2_init N h_5456 v_5458).bind fun h_5462 => ((wQ h_5462 v_5454 x1 v_5458).bind fun h_5463 => (fX11_image_b33 N h_5463 q0 x1)))) p_5459.1 p_5459.2)) | some v_5452 => (fX11_image_b33 N h q0 x1))) else (fX11_image_b9 N h)))
set_option maxRecDepth 10000 in
set_option maxHeartbeats 4000000 in
theorem rX11_image {d N : Nat} (hd : 6 ≤ d) {h : iv_H} {q0 : Nat} {x1 : Int32} {r : Int32 × iv_H} {Q : Option Value → iv_H → Prop} (e : fX11_image N h q0 x1 = some r) (hq : Q (some (.int r.1)) r.2) : Cl d 187 [.ref q0, .int x1] h Q := by
  obtain ⟨d, rfl⟩ : ∃ k, d = k + 1 := ⟨d - 1, by omega⟩
  have hd : 5 ≤ d := by omega
  have hT := hX11_image
  unfold fX11_image at e
  refine Cl.into (by decide) gX11_image rfl ?_
  show Rn d 187 (some .int) 0 [some (.ref q0), some (.int x1)] [] h Q
  refine Rn.n hT 1 (pc' := 1) (L' := [some (.ref q0), some (.int x1)]) (st' := [.int x1]) rfl ?_
  by_cases c_5448 : x1 < 0
  · rw [if_pos c_5448] at e
    refine Rn.bt hT rfl rfl rfl (decide_eq_true c_5448) ?_
    exact Rn.weak (ll_n (ll_n ll_e)) (rX11_image_b9 hd hq e)
  · rw [if_neg c_5448] at e
    refine Rn.bf hT rfl rfl rfl (decide_eq_false c_5448) ?_
    refine Rn.n hT 2 (pc' := 6) (L' := [some (.ref q0), some (.int x1)]) (st' := [.int (4 : Int32), .int x1]) rfl ?_
    by_cases c_5449 : x1 < (4 : Int32)
    · rw [if_pos c_5449] at e
      refine Rn.bt hT rfl rfl rfl (decide_eq_true c_5449) ?_
      refine Rn.n hT 1 (pc' := 12) (L' := [some (.ref q0), some (.int x1)]) (st' := [.ref q0]) rfl ?_
      obtain ⟨v_5450, e_5451, e⟩ := Option.bind_eq_some_iff.mp e
      refine Rn.hp hT rfl rfl (gR_hp e_5451) ?_
      refine Rn.n hT 1 (pc' := 16) (L' := [some (.ref q0), some (.int x1)]) (st' := [.int x1, .ref v_5450]) rfl ?_
      obtain ⟨o_5465, e_5453, e⟩ := Option.bind_eq_some_iff.mp e
      refine Rn.hp hT rfl rfl (aN_hp e_5453) ?_
      cases o_5465 with
      | none =>
        dsimp only at e
        show Rn d _ _ 17 [some (.ref q0), some (.int x1)] [.null] h Q
        refine Rn.bf hT rfl rfl rfl rfl ?_
        refine Rn.n hT 1 (pc' := 21) (L' := [some (.ref q0), some (.int x1)]) (st' := [.ref q0]) rfl ?_
        obtain ⟨v_5454, e_5455, e⟩ := Option.bind_eq_some_iff.mp e
        refine Rn.hp hT rfl rfl (gR_hp e_5455) ?_
        refine Rn.n hT 1 (pc' := 25) (L' := [some (.ref q0), some (.int x1)]) (st' := [.int x1, .ref v_5454]) rfl ?_
        obtain ⟨⟨v_5458, h_5456⟩, e_5457, e⟩ := Option.bind_eq_some_iff.mp e
        try dsimp only at e
        refine Rn.hp hT rfl rfl (nO_hp e_5457) ?_
        refine Rn.n hT 1 (pc' := 29) (L' := [some (.ref q0), some (.int x1)]) (st' := [.ref v_5458, .ref v_5458, .int x1, .ref v_5454]) rfl ?_
        obtain ⟨h_5462, e_5460, e⟩ := Option.bind_eq_some_iff.mp e
        refine Rn.call hT rfl rfl rfl (Nat.le_of_ble_eq_true rfl) rfl (rX2_init (by omega) e_5460 ?_)
        show Rn d _ _ 32 [some (.ref q0), some (.int x1)] [.ref v_5458, .int x1, .ref v_5454] h_5462 Q
        obtain ⟨h_5463, e_5464, e⟩ := Option.bind_eq_some_iff.mp e
        refine Rn.hp hT rfl rfl (wQ_hp e_5464) ?_
        exact Rn.weak (ll_s (ll_s ll_e)) (rX11_image_b33 hd hq e)
      | some v_5452 =>
        dsimp only at e
        show Rn d _ _ 17 [some (.ref q0), some (.int x1)] [.ref v_5452] h Q
        refine Rn.bt hT rfl rfl rfl rfl ?_
        exact Rn.weak (ll_s (ll_s ll_e)) (rX11_image_b33 hd hq e)
    · rw [if_neg c_5449] at e
      refine Rn.bf hT rfl rfl rfl (decide_eq_false c_5449) ?_
      exact Rn.weak (ll_n (ll_n ll_e)) (rX11_image_b9 hd hq e)
set_option maxRecDepth 10000 in
theorem hX11_back : iv_Tb 188 tX11_back := iv_tb_of (m := mX11_back) rfl
set_option maxRecDepth 10000 in
theorem gX11_back : PG.2 188 = some mX11_back := iv_pi_of (t := tX11_back) rfl (by decide)
def fX11_back_b18 (N : Nat) (h : iv_H)   : Option (Int32 × iv_H) := (some ((-1 : Int32), h))
set_option maxRecDepth 10000 in
set_option maxHeartbeats 4000000 in
theorem rX11_back_b18 {d N : Nat} (hd : 5 ≤ d) {h : iv_H}   {r : Int32 × iv_H} {Q : Option Value → iv_H → Prop} (hq : Q (some (.int r.1)) r.2) (e : fX11_back_b18 N h   = some r) : Rn d 188 (some .int) 18 [none, none] [] h Q := by
  have hT := hX11_back
  unfold fX11_back_b18 at e
  refine Rn.n hT 1 (pc' := 19) (L' := [none, none]) (st' := [.int (-1 : Int32)]) rfl ?_
  obtain rfl := Option.some.inj e
  exact Rn.ret hT rfl rfl rfl hq
def fX11_back (N : Nat) (h : iv_H) (q0 : Nat) (x1 : Int32) : Option (Int32 × iv_H) := (if x1 < 0 then (fX11_back_b18 N h) else (if (4 : Int32) ≤ x1 then (fX11_back_b18 N h) else ((gR h 11 6 q0).bind fun v_5482 => ((aN h v_5482 x1).bind fun o_5504 => match o_5504 with | none => (fX11_back_b18 N h) | some v_5484 => ((gR h 11 4 q0).bind fun v_5486 => ((gR h 11 6 q0).bind fun v_5488 => ((aR h v_5488 x1).bind fun v_5490 => ((cko h v_5486 2).bind fun _ => (fX2_copyFrom N h v_5486 v_5490).bind fun h_5495 => ((gI h_5495 11 15 q0).bind fun v_5496 => ((pV h_5495 11 15 q0 (.int (v_5496 + (1 : Int32)))).bind fun h_5498 => ((gR h_5498 11 4 q0).bind fun v_5500 => ((gI h_5498 2 6 v_5500).bind fun v_5502 => (some (v_5502, h_5498))))))))))))))
set_option maxRecDepth 10000 in
set_option maxHeartbeats 4000000 in
theorem rX11_back {d N : Nat} (hd : 6 ≤ d) {h : iv_H} {q0 : Nat} {x1 : Int32} {r : Int32 × iv_H} {Q : Option Value → iv_H → Prop} (e : fX11_back N h q0 x1 = some r) (hq : Q (some (.int r.1)) r.2) : Cl d 188 [.ref q0, .int x1] h Q := by
  obtain ⟨d, rfl⟩ : ∃ k, d = k + 1 := ⟨d - 1, by omega⟩
  have hd : 5 ≤ d := by omega
  have hT := hX11_back
  unfold fX11_back at e
  refine Cl.into (by decide) gX11_back rfl ?_
  show Rn d 188 (some .int) 0 [some (.ref q0), some (.int x1)] [] h Q
  refine Rn.n hT 1 (pc' := 1) (L' := [some (.ref q0), some (.int x1)]) (st' := [.int x1]) rfl ?_
  by_cases c_5480 : x1 < 0
  · rw [if_pos c_5480] at e
    refine Rn.bt hT rfl rfl rfl (decide_eq_true c_5480) ?_
    exact Rn.weak (ll_n (ll_n ll_e)) (rX11_back_b18 hd hq e)
  · rw [if_neg c_5480] at e
    refine Rn.bf hT rfl rfl rfl (decide_eq_false c_5480) ?_
    refine Rn.n hT 2 (pc' := 6) (L' := [some (.ref q0), some (.int x1)]) (st' := [.int (4 : Int32), .int x1]) rfl ?_
    by_cases c_5481 : (4 : Int32) ≤ x1
    · rw [if_pos c_5481] at e
      refine Rn.bt hT rfl rfl rfl (decide_eq_true c_5481) ?_
      exact Rn.weak (ll_n (ll_n ll_e)) (rX11_back_b18 hd hq e)
    · rw [if_neg c_5481] at e
      refine Rn.bf hT rfl rfl rfl (decide_eq_false c_5481) ?_
      refine Rn.n hT 1 (pc' := 10) (L' := [some (.ref q0), some (.int x1)]) (st' := [.ref q0]) rfl ?_
      obtain ⟨v_5482, e_5483, e⟩ := Option.bind_eq_some_iff.mp e
      refine Rn.hp hT rfl rfl (gR_hp e_5483) ?_
      refine Rn.n hT 1 (pc' := 14) (L' := [some (.ref q0), some (.int x1)]) (st' := [.int x1, .ref v_5482]) rfl ?_
      obtain ⟨o_5504, e_5485, e⟩ := Option.bind_eq_some_iff.mp e
      refine Rn.hp hT rfl rfl (aN_hp e_5485) ?_
      cases o_5504 with
      | none =>
        dsimp only at e
        show Rn d _ _ 15 [some (.ref q0), some (.int x1)] [.null] h Q
        refine Rn.bf hT rfl rfl rfl rfl ?_
        exact Rn.weak (ll_n (ll_n ll_e)) (rX11_back_b18 hd hq e)
      | some v_5484 =>
        dsimp only at e
        show Rn d _ _ 15 [some (.ref q0), some (.int x1)] [.ref v_5484] h Q
        refine Rn.bt hT rfl rfl rfl rfl ?_
        refine Rn.n hT 1 (pc' := 21) (L' := [some (.ref q0), some (.int x1)]) (st' := [.ref q0]) rfl ?_
        obtain ⟨v_5486, e_5487, e⟩ := Option.bind_eq_some_iff.mp e
        refine Rn.hp hT rfl rfl (gR_hp e_5487) ?_
        refine Rn.n hT 1 (pc' := 25) (L' := [some (.ref q0), some (.int x1)]) (st' := [.ref q0, .ref v_5486]) rfl ?_
        obtain ⟨v_5488, e_5489, e⟩ := Option.bind_eq_some_iff.mp e
        refine Rn.hp hT rfl rfl (gR_hp e_5489) ?_
        refine Rn.n hT 1 (pc' := 29) (L' := [some (.ref q0), some (.int x1)]) (st' := [.int x1, .ref v_5488, .ref v_5486]) rfl ?_
        obtain ⟨v_5490, e_5491, e⟩ := Option.bind_eq_some_iff.mp e
        refine Rn.hp hT rfl rfl (aR_hp e_5491) ?_
        obtain ⟨_, e_5493, e⟩ := Option.bind_eq_some_iff.mp e
        obtain ⟨h_5495, e_5492, e⟩ := Option.bind_eq_some_iff.mp e
        refine Rn.call hT rfl rfl rfl (Nat.le_of_ble_eq_true rfl) (rcv_v gX2_copyFrom (by omega) e_5493) (rX2_copyFrom (by omega) e_5492 ?_)
        show Rn d _ _ 33 [some (.ref q0), some (.int x1)] [] h_5495 Q
        refine Rn.n hT 2 (pc' := 35) (L' := [some (.ref q0), some (.int x1)]) (st' := [.ref q0, .ref q0]) rfl ?_
        obtain ⟨v_5496, e_5497, e⟩ := Option.bind_eq_some_iff.mp e
        refine Rn.hp hT rfl rfl (gI_hp e_5497) ?_
        refine Rn.n hT 2 (pc' := 40) (L' := [some (.ref q0), some (.int x1)]) (st' := [.int (v_5496 + (1 : Int32)), .ref q0]) rfl ?_
        obtain ⟨h_5498, e_5499, e⟩ := Option.bind_eq_some_iff.mp e
        refine Rn.hp hT rfl rfl (pV_hp rfl e_5499) ?_
        refine Rn.n hT 1 (pc' := 44) (L' := [some (.ref q0), some (.int x1)]) (st' := [.ref q0]) rfl ?_
        obtain ⟨v_5500, e_5501, e⟩ := Option.bind_eq_some_iff.mp e
        refine Rn.hp hT rfl rfl (gR_hp e_5501) ?_
        obtain ⟨v_5502, e_5503, e⟩ := Option.bind_eq_some_iff.mp e
        refine Rn.hp hT rfl rfl (gI_hp e_5503) ?_
        obtain rfl := Option.some.inj e
        exact Rn.ret hT rfl rfl rfl hq
set_option maxRecDepth 10000 in
theorem hX12_init : iv_Tb 189 tX12_init := iv_tb_of (m := mX12_init) rfl
set_option maxRecDepth 10000 in
theorem gX12_init : PG.2 189 = some mX12_init := iv_pi_of (t := tX12_init) rfl (by decide)
set_option maxRecDepth 100000 in
def fX12_init (N : Nat) (h : iv_H) (q0 : Nat) : Option (iv_H) := ((nA h 0 (14 : Int32)).bind fun p_5509 => (fun (v_5508 : Nat) (h_5506 : iv_H) => ((wI h_5506 v_5508 (0 : Int32) (0 : Int32)).bind fun h_5510 => ((wI h_5510 v_5508 (1 : Int32) (0 : Int32)).bind fun h_5512 => ((wI h_5512 v_5508 (2 : Int32) (0 : Int32)).bind fun h_5514 => ((wI h_5514 v_5508 (3 : Int32) (0 : Int32)).bind fun h_5516 => ((wI h_5516 v_5508 (4 : Int32) (0 : Int32)).bind fun h_5518 => ((wI h_5518 v_5508 (5 : Int32) (0 : Int32)).bind fun h_5520 => ((wI h_5520 v_5508 (6 : Int32) (0 : Int32)).bind fun h_5522 => ((wI h_5522 v_5508 (7 : Int32) (0 : Int32)).bind fun h_5524 => ((wI h_5524 v_5508 (8 : Int32) (0 : Int32)).bind fun h_5526 => ((wI h_5526 v_5508 (9 : Int32) (0 : Int32)).bind fun h_5528 => ((wI h_5528 v_5508 (10 : Int32) (0 : Int32)).bind fun h_5530 => ((wI h_5530 v_5508 (11 : Int32) (0 : Int32)).bind fun h_5532 => ((wI h_5532 v_5508 (12 : Int32) (-1 : Int32)).bind fun h_5534 => ((wI h_5534 v_5508 (13 : Int32) (0 : Int32)).bind fun h_5536 => ((pV h_5536 12 1 q0 (.ref v_5508)).bind fun h_5538 => ((nA h_5538 0 (48 : Int32)).bind fun p_5543 => (fun (v_5542 : Nat) (h_5540 : iv_H) => ((pV h_5540 12 2 q0 (.ref v_5542)).bind fun h_5544 => ((nA h_5544 0 (12 : Int32)).bind fun p_5549 => (fun (v_5548 : Nat) (h_5546 : iv_H) => ((pV h_5546 12 3 q0 (.ref v_5548)).bind fun h_5550 => ((nA h_5550 0 (12 : Int32)).bind fun p_5555 => (fun (v_5554 : Nat) (h_5552 : iv_H) => ((pV h_5552 12 4 q0 (.ref v_5554)).bind fun h_5556 => ((nA h_5556 0 (12 : Int32)).bind fun p_5561 => (fun (v_5560 : Nat) (h_5558 : iv_H) => ((pV h_5558 12 5 q0 (.ref v_5560)).bind fun h_5562 => ((nA h_5562 0 (4 : Int32)).bind fun p_5567 => (fun (v_5566 : Nat) (h_5564 : iv_H) => ((wI h_5564 v_5566 (0 : Int32) (-1 : Int32)).bind fun h_5568 => ((wI h_5568 v_5566 (1 : Int32) (-1 : Int32)).bind fun h_5570 => ((wI h_5570 v_5566 (2 : Int32) (-1 : Int32)).bind fun h_5572 => ((wI h_5572 v_5566 (3 : Int32) (-1 : Int32)).bind fun h_5574 => ((pV h_5574 12 6 q0 (.ref v_5566)).bind fun h_5576 => ((nA h_5576 0 (6 : Int32)).bind fun p_5581 => (fun (v_5580 : Nat) (h_5578 : iv_H) => ((pV h_5578 12 7 q0 (.ref v_5580)).bind fun h_5582 => ((nA h_5582 0 (16 : Int32)).bind fun p_5587 => (fun (v_5586 : Nat) (h_5584 : iv_H) => ((wI h_5584 v_5586 (0 : Int32) (-1 : Int32)).bind fun h_5588 => ((wI h_5588 v_5586 (1 : Int32) (-1 : Int32)).bind fun h_5590 => ((wI h_5590 v_5586 (2 : Int32) (-1 : Int32)).bind fun h_5592 => ((wI h_5592 v_5586 (3 : Int32) (-1 : Int32)).bind fun h_5594 => ((wI h_5594 v_5586 (4 : Int32) (-1 : Int32)).bind fun h_5596 => ((wI h_5596 v_5586 (5 : Int32) (-1 : Int32)).bind fun h_5598 => ((wI h_5598 v_5586 (6 : Int32) (-1 : Int32)).bind fun h_5600 => ((wI h_5600 v_5586 (7 : Int32) (-1 : Int32)).bind fun h_5602 => ((wI h_5602 v_5586 (8 : Int32) (-1 : Int32)).bind fun h_5604 => ((wI h_5604 v_5586 (9 : Int32) (-1 : Int32)).bind fun h_5606 => ((wI h_5606 v_5586 (10 : Int32) (-1 : Int32)).bind fun h_5608 => ((wI h_5608 v_5586 (11 : Int32) (-1 : Int32)).bind fun h_5610 => ((wI h_5610 v_5586 (12 : Int32) (-1 : Int32)).bind fun h_5612 => ((wI h_5612 v_5586 (13 : Int32) (-1 : Int32)).bind fun h_5614 => ((wI h_5614 v_5586 (14 : Int32) (-1 : Int32)).bind fun h_5616 => ((wI h_5616 v_5586 (15 : Int32) (-1 : Int32)).bind fun h_5618 => ((pV h_5618 12 8 q0 (.ref v_5586)).bind fun h_5620 => ((nA h_5620 0 (480 : Int32)).bind fun p_5625 => (fun (v_5624 : Nat) (h_5622 : iv_H) => ((pV h_5622 12 9 q0 (.ref v_5624)).bind fun h_5626 => ((nA h_5626 0 (96 : Int32)).bind fun p_5631 => (fun (v_5630 : Nat) (h_5628 : iv_H) => ((pV h_5628 12 10 q0 (.ref v_5630)).bind fun h_5632 => ((nA h_5632 0 (10 : Int32)).bind fun p_5637 => (fun (v_5636 : Nat) (h_5634 : iv_H) => ((pV h_5634 12 11 q0 (.ref v_5636)).bind fun h_5638 => ((nA h_5638 0 (10 : Int32)).bind fun p_5643 => (fun (v_5642 : Nat) (h_5640 : iv_H) => ((pV h_5640 12 12 q0 (.ref v_5642)).bind fun h_5644 => ((nA h_5644 0 (10 : Int32)).bind fun p_5649 => (fun (v_5648 : Nat) (h_5646 : iv_H) => ((pV h_5646 12 13 q0 (.ref v_5648)).bind fun h_5650 => ((nA h_5650 0 (12 : Int32)).bind fun p_5655 => (fun (v_5654 : Nat) (h_5652 : iv_H) => ((pV h_5652 12 14 q0 (.ref v_5654)).bind fun h_5656 => ((nA h_5656 0 (12 : Int32)).bind fun p_5661 => (fun (v_5660 : Nat) (h_5658 : iv_H) => ((pV h_5658 12 15 q0 (.ref v_5660)).bind fun h_5662 => ((nA h_5662 0 (12 : Int32)).bind fun p_5667 => (fun (v_5666 : Nat) (h_5664 : iv_H) => ((pV h_5664 12 16 q0 (.ref v_5666)).bind fun h_5668 => ((nA h_5668 0 (8 : Int32)).bind fun p_5673 => (fun (v_5672 : Nat) (h_5670 : iv_H) => ((pV h_5670 12 17 q0 (.ref v_5672)).bind fun h_5674 => ((nA h_5674 0 (8 : Int32)).bind fun p_5679 => (fun (v_5678 : Nat) (h_5676 : iv_H) => ((pV h_5676 12 18 q0 (.ref v_5678)).bind fun h_5680 => ((nA h_5680 0 (5 : Int32)).bind fun p_5685 => (fun (v_5684 : Nat) (h_5682 : iv_H) => ((pV h_5682 12 19 q0 (.ref v_5684)).bind fun h_5686 => ((nA h_5686 0 (48 : Int32)).bind fun p_5691 => (fun (v_5690 : Nat) (h_5688 : iv_H) => ((pV h_5688 12 20 q0 (.ref v_5690)).bind fun h_5692 => ((nA h_5692 0 (12 : Int32)).bind fun p_5697 => (fun (v_5696 : Nat) (h_5694 : iv_H) => ((pV h_5694 12 21 q0 (.ref v_5696)).bind fun h_5698 => ((nA h_5698 0 (12 : Int32)).bind fun p_5703 => (fun (v_5702 : Nat) (h_5700 : iv_H) => ((pV h_5700 12 22 q0 (.ref v_5702)).bind fun h_5704 => ((nA h_5704 0 (4 : Int32)).bind fun p_5709 => (fun (v_5708 : Nat) (h_5706 : iv_H) => ((pV h_5706 12 23 q0 (.ref v_5708)).bind fun h_5710 => ((nA h_5710 0 (6 : Int32)).bind fun p_5715 => (fun (v_5714 : Nat) (h_5712 : iv_H) => ((pV h_5712 12 24 q0 (.ref v_5714)).bind fun h_5716 => ((nA h_5716 0 (16 : Int32)).bind fun p_5721 => (fun (v_5720 : Nat) (h_5718 : iv_H) => ((pV h_5718 12 25 q0 (.ref v_5720)).bind fun h_5722 => ((pV h_5722 12 37 q0 (.int (13 : Int32))).bind fun h_5724 => ((nA h_5724 2 (400 : Int32)).bind fun p_5729 => (fun (v_5728 : Nat) (h_5726 : iv_H) => ((pV h_5726 12 39 q0 (.ref v_5728)).bind fun h_5730 => ((nA h_5730 0 (1800 : Int32)).bind fun p_5735 => (fun (v_5734 : Nat) (h_5732 : iv_H) => ((pV h_5732 12 40 q0 (.ref v_5734)).bind fun h_5736 => ((nA h_5736 0 (1800 : Int32)).bind fun p_5741 => (fun (v_5740 : Nat) (h_5738 : iv_H) => ((pV h_5738 12 41 q0 (.ref v_5740)).bind fun h_5742 => ((nA h_5742 0 (6 : Int32)).bind fun p_5747 => (fun (v_5746 : Nat) (h_5744 : iv_H) => ((pV h_5744 12 42 q0 (.ref v_5746)).bind fun h_5748 => ((nA h_5748 0 (72 : Int32)).bind fun p_5753 => (fun (v_5752 : Nat) (h_5750 : iv_H) => ((pV h_5750 12 43 q0 (.ref v_5752)).bind fun h_5754 => ((nA h_5754 0 (72 : Int32)).bind fun p_5759 => (fun (v_5758 : Nat) (h_5756 : iv_H) => ((pV h_5756 12 44 q0 (.ref v_5758)).bind fun h_5760 => ((nA h_5760 0 (402 : Int32)).bind fun p_5765 => (fun (v_5764 : Nat) (h_5762 : iv_H) => ((pV h_5762 12 45 q0 (.ref v_5764)).bind fun h_5766 => ((nA h_5766 1 (13 : Int32)).bind fun p_5771 => (fun (v_5770 : Nat) (h_5768 : iv_H) => ((pV h_5768 12 46 q0 (.ref v_5770)).bind fun h_5772 => ((nA h_5772 1 (300 : Int32)).bind fun p_5777 => (fun (v_5776 : Nat) (h_5774 : iv_H) => ((pV h_5774 12 47 q0 (.ref v_5776)).bind fun h_5778 => ((nA h_5778 1 (1501 : Int32)).bind fun p_5783 => (fun (v_5782 : Nat) (h_5780 : iv_H) => ((pV h_5780 12 49 q0 (.ref v_5782)).bind fun h_5784 => ((nA h_5784 0 (1501 : Int32)).bind fun p_5789 => (fun (v_5788 : Nat) (h_5786 : iv_H) => ((pV h_5786 12 50 q0 (.ref v_5788)).bind fun h_5790 => ((nA h_5790 0 (1501 : Int32)).bind fun p_5795 => (fun (v_5794 : Nat) (h_5792 : iv_H) => ((pV h_5792 12 51 q0 (.ref v_5794)).bind fun h_5796 => ((nA h_5796 0 (1501 : Int32)).bind fun p_5801 => (fun (v_5800 : Nat) (h_5798 : iv_H) => ((pV h_5798 12 52 q0 (.ref v_5800)).bind fun h_5802 => ((nA h_5802 0 (4096 : Int32)).bind fun p_5807 => (fun (v_5806 : Nat) (h_5804 : iv_H) => ((pV h_5804 12 53 q0 (.ref v_5806)).bind fun h_5808 => ((nA h_5808 0 (4096 : Int32)).bind fun p_5813 => (fun (v_5812 : Nat) (h_5810 : iv_H) => ((pV h_5810 12 54 q0 (.ref v_5812)).bind fun h_5814 => ((nA h_5814 0 (24 : Int32)).bind fun p_5819 => (fun (v_5818 : Nat) (h_5816 : iv_H) => ((pV h_5816 12 55 q0 (.ref v_5818)).bind fun h_5820 => ((nA h_5820 0 (16 : Int32)).bind fun p_5825 => (fun (v_5824 : Nat) (h_5822 : iv_H) => ((pV h_5822 12 59 q0 (.ref v_5824)).bind fun h_5826 => ((nA h_5826 0 (16 : Int32)).bind fun p_5831 => (fun (v_5830 : Nat) (h_5828 : iv_H) => ((pV h_5828 12 60 q0 (.ref v_5830)).bind fun h_5832 => ((nA h_5832 0 (12 : Int32)).bind fun p_5837 => (fun (v_5836 : Nat) (h_5834 : iv_H) => ((pV h_5834 12 61 q0 (.ref v_5836)).bind fun h_5838 => ((nA h_5838 0 (13 : Int32)).bind fun p_5843 => (fun (v_5842 : Nat) (h_5840 : iv_H) => ((pV h_5840 12 62 q0 (.ref v_5842)).bind fun h_5844 => ((nA h_5844 0 (12 : Int32)).bind fun p_5849 => (fun (v_5848 : Nat) (h_5846 : iv_H) => ((pV h_5846 12 63 q0 (.ref v_5848)).bind fun h_5850 => ((nA h_5850 0 (192 : Int32)).bind fun p_5855 => (fun (v_5854 : Nat) (h_5852 : iv_H) => ((pV h_5852 12 64 q0 (.ref v_5854)).bind fun h_5856 => ((nA h_5856 0 (192 : Int32)).bind fun p_5861 => (fun (v_5860 : Nat) (h_5858 : iv_H) => ((pV h_5858 12 65 q0 (.ref v_5860)).bind fun h_5862 => ((nA h_5862 0 (132 : Int32)).bind fun p_5867 => (fun (v_5866 : Nat) (h_5864 : iv_H) => ((pV h_5864 12 67 q0 (.ref v_5866)).bind fun h_5868 => ((nA h_5868 0 (6 : Int32)).bind fun p_5873 => (fun (v_5872 : Nat) (h_5870 : iv_H) => ((pV h_5870 12 69 q0 (.ref v_5872)).bind fun h_5874 => ((nA h_5874 0 (7 : Int32)).bind fun p_5879 => (fun (v_5878 : Nat) (h_5876 : iv_H) => ((pV h_5876 12 70 q0 (.ref v_5878)).bind fun h_5880 => ((nA h_5880 0 (7 : Int32)).bind fun p_5885 => (fun (v_5884 : Nat) (h_5882 : iv_H) => ((pV h_5882 12 71 q0 (.ref v_5884)).bind fun h_5886 => ((nA h_5886 0 (6 : Int32)).bind fun p_5891 => (fun (v_5890 : Nat) (h_5888 : iv_H) => ((pV h_5888 12 72 q0 (.ref v_5890)).bind fun h_5892 => ((nA h_5892 0 (72 : Int32)).bind fun p_5897 => (fun (v_5896 : Nat) (h_5894 : iv_H) => ((pV h_5894 12 73 q0 (.ref v_5896)).bind fun h_5898 => ((nA h_5898 0 (4 : Int32)).bind fun p_5903 => (fun (v_5902 : Nat) (h_5900 : iv_H) => ((pV h_5900 12 74 q0 (.ref v_5902)).bind fun h_5904 => ((nA h_5904 0 (4 : Int32)).bind fun p_5909 => (fun (v_5908 : Nat) (h_5906 : iv_H) => ((pV h_5906 12 75 q0 (.ref v_5908)).bind fun h_5910 => ((nA h_5910 0 (3 : Int32)).bind fun p_5915 => (fun (v_5914 : Nat) (h_5912 : iv_H) => ((pV h_5912 12 76 q0 (.ref v_5914)).bind fun h_5916 => ((nA h_5916 0 (4 : Int32)).bind fun p_5921 => (fun (v_5920 : Nat) (h_5918 : iv_H) => ((pV h_5918 12 77 q0 (.ref v_5920)).bind fun h_5922 => ((nA h_5922 0 (3440 : Int32)).bind fun p_5927 => (fun (v_5926 : Nat) (h_5924 : iv_H) => ((pV h_5924 12 79 q0 (.ref v_5926)).bind fun h_5928 => ((nA h_5928 3 (4 : Int32)).bind fun p_5933 => (fun (v_5932 : Nat) (h_5930 : iv_H) => ((pV h_5930 12 80 q0 (.ref v_5932)).bind fun h_5934 => some h_5934)) p_5933.1 p_5933.2))) p_5927.1 p_5927.2))) p_5921.1 p_5921.2))) p_5915.1 p_5915.2))) p_5909.1 p_5909.2))) p_5903.1 p_5903.2))) p_5897.1 p_5897.2))) p_5891.1 p_5891.2))) p_5885.1 p_5885.2))) p_5879.1 p_5879.2))) p_5873.1 p_5873.2))) p_5867.1 p_5867.2))) p_5861.1 p_5861.2))) p_5855.1 p_5855.2))) p_5849.1 p_5849.2))) p_5843.1 p_5843.2))) p_5837.1 p_5837.2))) p_5831.1 p_5831.2))) p_5825.1 p_5825.2))) p_5819.1 p_5819.2))) p_5813.1 p_5813.2))) p_5807.1 p_5807.2))) p_5801.1 p_5801.2))) p_5795.1 p_5795.2))) p_5789.1 p_5789.2))) p_5783.1 p_5783.2))) p_5777.1 p_5777.2))) p_5771.1 p_5771.2))) p_5765.1 p_5765.2))) p_5759.1 p_5759.2))) p_5753.1 p_5753.2))) p_5747.1 p_5747.2))) p_5741.1 p_5741.2))) p_5735.1 p_5735.2))) p_5729.1 p_5729.2)))) p_5721.1 p_5721.2))) p_5715.1 p_5715.2))) p_5709.1 p_5709.2))) p_5703.1 p_5703.2))) p_5697.1 p_5697.2))) p_5691.1 p_5691.2))) p_5685.1 p_5685.2))) p_5679.1 p_5679.2))) p_5673.1 p_5673.2))) p_5667.1 p_5667.2))) p_5661.1 p_5661.2))) p_5655.1 p_5655.2))) p_5649.1 p_5649.2))) p_5643.1 p_5643.2))) p_5637.1 p_5637.2))) p_5631.1 p_5631.2))) p_5625.1 p_5625.2))))))))))))))))))) p_5587.1 p_5587.2))) p_5581.1 p_5581.2))))))) p_5567.1 p_5567.2))) p_5561.1 p_5561.2))) p_5555.1 p_5555.2))) p_5549.1 p_5549.2))) p_5543.1 p_5543.2))))))))))))))))) p_5509.1 p_5509.2)
set_option maxRecDepth 10000 in
set_option maxHeartbeats 4000000 in
theorem rX12_init {d N : Nat} (hd : 1 ≤ d) {h : iv_H} {q0 : Nat} {r : iv_H} {Q : Option Value → iv_H → Prop} (e : fX12_init N h q0 = some r) (hq : Q none r) : Cl d 189 [.ref q0] h Q := by
  obtain ⟨d, rfl⟩ : ∃ k, d = k + 1 := ⟨d - 1, by omega⟩
  have hd : 0 ≤ d := by omega
  have hT := hX12_init
  unfold fX12_init at e
  refine Cl.into (by decide) gX12_init rfl ?_
  show Rn d 189 none 0 [some (.ref q0)] [] h Q
  refine Rn.n hT 1 (pc' := 1) (L' := [some (.ref q0)]) (st' := [.ref q0]) rfl ?_
  refine Rn.hp hT rfl rfl (st' := []) (h1 := h) rfl ?_
  refine Rn.n hT 2 (pc' := 7) (L' := [some (.ref q0)]) (st' := [.int (14 : Int32), .ref q0]) rfl ?_
  obtain ⟨⟨v_5508, h_5506⟩, e_5507, e⟩ := Option.bind_eq_some_iff.mp e
  try dsimp only at e
  refine Rn.hp hT rfl rfl (nA_hp rfl e_5507) ?_
  refine Rn.n hT 3 (pc' := 12) (L' := [some (.ref q0)]) (st' := [.int (0 : Int32), .int (0 : Int32), .ref v_5508, .ref v_5508, .ref q0]) rfl ?_
  obtain ⟨h_5510, e_5511, e⟩ := Option.bind_eq_some_iff.mp e
  refine Rn.hp hT rfl rfl (wI_hp e_5511) ?_
  refine Rn.n hT 3 (pc' := 16) (L' := [some (.ref q0)]) (st' := [.int (0 : Int32), .int (1 : Int32), .ref v_5508, .ref v_5508, .ref q0]) rfl ?_
  obtain ⟨h_5512, e_5513, e⟩ := Option.bind_eq_some_iff.mp e
  refine Rn.hp hT rfl rfl (wI_hp e_5513) ?_
  refine Rn.n hT 3 (pc' := 20) (L' := [some (.ref q0)]) (st' := [.int (0 : Int32), .int (2 : Int32), .ref v_5508, .ref v_5508, .ref q0]) rfl ?_
  obtain ⟨h_5514, e_5515, e⟩ := Option.bind_eq_some_iff.mp e
  refine Rn.hp hT rfl rfl (wI_hp e_5515) ?_
  refine Rn.n hT 3 (pc' := 24) (L' := [some (.ref q0)]) (st' := [.int (0 : Int32), .int (3 : Int32), .ref v_5508, .ref v_5508, .ref q0]) rfl ?_
  obtain ⟨h_5516, e_5517, e⟩ := Option.bind_eq_some_iff.mp e
  refine Rn.hp hT rfl rfl (wI_hp e_5517) ?_
  refine Rn.n hT 3 (pc' := 28) (L' := [some (.ref q0)]) (st' := [.int (0 : Int32), .int (4 : Int32), .ref v_5508, .ref v_5508, .ref q0]) rfl ?_
  obtain ⟨h_5518, e_5519, e⟩ := Option.bind_eq_some_iff.mp e
  refine Rn.hp hT rfl rfl (wI_hp e_5519) ?_
  refine Rn.n hT 3 (pc' := 32) (L' := [some (.ref q0)]) (st' := [.int (0 : Int32), .int (5 : Int32), .ref v_5508, .ref v_5508, .ref q0]) rfl ?_
  obtain ⟨h_5520, e_5521, e⟩ := Option.bind_eq_some_iff.mp e
  refine Rn.hp hT rfl rfl (wI_hp e_5521) ?_
  refine Rn.n hT 3 (pc' := 37) (L' := [some (.ref q0)]) (st' := [.int (0 : Int32), .int (6 : Int32), .ref v_5508, .ref v_5508, .ref q0]) rfl ?_
  obtain ⟨h_5522, e_5523, e⟩ := Option.bind_eq_some_iff.mp e
  refine Rn.hp hT rfl rfl (wI_hp e_5523) ?_
  refine Rn.n hT 3 (pc' := 42) (L' := [some (.ref q0)]) (st' := [.int (0 : Int32), .int (7 : Int32), .ref v_5508, .ref v_5508, .ref q0]) rfl ?_
  obtain ⟨h_5524, e_5525, e⟩ := Option.bind_eq_some_iff.mp e
  refine Rn.hp hT rfl rfl (wI_hp e_5525) ?_
  refine Rn.n hT 3 (pc' := 47) (L' := [some (.ref q0)]) (st' := [.int (0 : Int32), .int (8 : Int32), .ref v_5508, .ref v_5508, .ref q0]) rfl ?_
  obtain ⟨h_5526, e_5527, e⟩ := Option.bind_eq_some_iff.mp e
  refine Rn.hp hT rfl rfl (wI_hp e_5527) ?_
  refine Rn.n hT 3 (pc' := 52) (L' := [some (.ref q0)]) (st' := [.int (0 : Int32), .int (9 : Int32), .ref v_5508, .ref v_5508, .ref q0]) rfl ?_
  obtain ⟨h_5528, e_5529, e⟩ := Option.bind_eq_some_iff.mp e
  refine Rn.hp hT rfl rfl (wI_hp e_5529) ?_
  refine Rn.n hT 3 (pc' := 57) (L' := [some (.ref q0)]) (st' := [.int (0 : Int32), .int (10 : Int32), .ref v_5508, .ref v_5508, .ref q0]) rfl ?_
  obtain ⟨h_5530, e_5531, e⟩ := Option.bind_eq_some_iff.mp e
  refine Rn.hp hT rfl rfl (wI_hp e_5531) ?_
  refine Rn.n hT 3 (pc' := 62) (L' := [some (.ref q0)]) (st' := [.int (0 : Int32), .int (11 : Int32), .ref v_5508, .ref v_5508, .ref q0]) rfl ?_
  obtain ⟨h_5532, e_5533, e⟩ := Option.bind_eq_some_iff.mp e
  refine Rn.hp hT rfl rfl (wI_hp e_5533) ?_
  refine Rn.n hT 3 (pc' := 67) (L' := [some (.ref q0)]) (st' := [.int (-1 : Int32), .int (12 : Int32), .ref v_5508, .ref v_5508, .ref q0]) rfl ?_
  obtain ⟨h_5534, e_5535, e⟩ := Option.bind_eq_some_iff.mp e
  refine Rn.hp hT rfl rfl (wI_hp e_5535) ?_
  refine Rn.n hT 3 (pc' := 72) (L' := [some (.ref q0)]) (st' := [.int (0 : Int32), .int (13 : Int32), .ref v_5508, .ref v_5508, .ref q0]) rfl ?_
  obtain ⟨h_5536, e_5537, e⟩ := Option.bind_eq_some_iff.mp e
  refine Rn.hp hT rfl rfl (wI_hp e_5537) ?_
  obtain ⟨h_5538, e_5539, e⟩ := Option.bind_eq_some_iff.mp e
  refine Rn.hp hT rfl rfl (pV_hp rfl e_5539) ?_
  refine Rn.n hT 2 (pc' := 79) (L' := [some (.ref q0)]) (st' := [.int (48 : Int32), .ref q0]) rfl ?_
  obtain ⟨⟨v_5542, h_5540⟩, e_5541, e⟩ := Option.bind_eq_some_iff.mp e
  try dsimp only at e
  refine Rn.hp hT rfl rfl (nA_hp rfl e_5541) ?_
  obtain ⟨h_5544, e_5545, e⟩ := Option.bind_eq_some_iff.mp e
  refine Rn.hp hT rfl rfl (pV_hp rfl e_5545) ?_
  refine Rn.n hT 2 (pc' := 87) (L' := [some (.ref q0)]) (st' := [.int (12 : Int32), .ref q0]) rfl ?_
  obtain ⟨⟨v_5548, h_5546⟩, e_5547, e⟩ := Option.bind_eq_some_iff.mp e
  try dsimp only at e
  refine Rn.hp hT rfl rfl (nA_hp rfl e_5547) ?_
  obtain ⟨h_5550, e_5551, e⟩ := Option.bind_eq_some_iff.mp e
  refine Rn.hp hT rfl rfl (pV_hp rfl e_5551) ?_
  refine Rn.n hT 2 (pc' := 95) (L' := [some (.ref q0)]) (st' := [.int (12 : Int32), .ref q0]) rfl ?_
  obtain ⟨⟨v_5554, h_5552⟩, e_5553, e⟩ := Option.bind_eq_some_iff.mp e
  try dsimp only at e
  refine Rn.hp hT rfl rfl (nA_hp rfl e_5553) ?_
  obtain ⟨h_5556, e_5557, e⟩ := Option.bind_eq_some_iff.mp e
  refine Rn.hp hT rfl rfl (pV_hp rfl e_5557) ?_
  refine Rn.n hT 2 (pc' := 103) (L' := [some (.ref q0)]) (st' := [.int (12 : Int32), .ref q0]) rfl ?_
  obtain ⟨⟨v_5560, h_5558⟩, e_5559, e⟩ := Option.bind_eq_some_iff.mp e
  try dsimp only at e
  refine Rn.hp hT rfl rfl (nA_hp rfl e_5559) ?_
  obtain ⟨h_5562, e_5563, e⟩ := Option.bind_eq_some_iff.mp e
  refine Rn.hp hT rfl rfl (pV_hp rfl e_5563) ?_
  refine Rn.n hT 2 (pc' := 110) (L' := [some (.ref q0)]) (st' := [.int (4 : Int32), .ref q0]) rfl ?_
  obtain ⟨⟨v_5566, h_5564⟩, e_5565, e⟩ := Option.bind_eq_some_iff.mp e
  try dsimp only at e
  refine Rn.hp hT rfl rfl (nA_hp rfl e_5565) ?_
  refine Rn.n hT 3 (pc' := 115) (L' := [some (.ref q0)]) (st' := [.int (-1 : Int32), .int (0 : Int32), .ref v_5566, .ref v_5566, .ref q0]) rfl ?_
  obtain ⟨h_5568, e_5569, e⟩ := Option.bind_eq_some_iff.mp e
  refine Rn.hp hT rfl rfl (wI_hp e_5569) ?_
  refine Rn.n hT 3 (pc' := 119) (L' := [some (.ref q0)]) (st' := [.int (-1 : Int32), .int (1 : Int32), .ref v_5566, .ref v_5566, .ref q0]) rfl ?_
  obtain ⟨h_5570, e_5571, e⟩ := Option.bind_eq_some_iff.mp e
  refine Rn.hp hT rfl rfl (wI_hp e_5571) ?_
  refine Rn.n hT 3 (pc' := 123) (L' := [some (.ref q0)]) (st' := [.int (-1 : Int32), .int (2 : Int32), .ref v_5566, .ref v_5566, .ref q0]) rfl ?_
  obtain ⟨h_5572, e_5573, e⟩ := Option.bind_eq_some_iff.mp e
  refine Rn.hp hT rfl rfl (wI_hp e_5573) ?_
  refine Rn.n hT 3 (pc' := 127) (L' := [some (.ref q0)]) (st' := [.int (-1 : Int32), .int (3 : Int32), .ref v_5566, .ref v_5566, .ref q0]) rfl ?_
  obtain ⟨h_5574, e_5575, e⟩ := Option.bind_eq_some_iff.mp e
  refine Rn.hp hT rfl rfl (wI_hp e_5575) ?_
  obtain ⟨h_5576, e_5577, e⟩ := Option.bind_eq_some_iff.mp e
  refine Rn.hp hT rfl rfl (pV_hp rfl e_5577) ?_
  refine Rn.n hT 2 (pc' := 134) (L' := [some (.ref q0)]) (st' := [.int (6 : Int32), .ref q0]) rfl ?_
  obtain ⟨⟨v_5580, h_5578⟩, e_5579, e⟩ := Option.bind_eq_some_iff.mp e
  try dsimp only at e
  refine Rn.hp hT rfl rfl (nA_hp rfl e_5579) ?_
  obtain ⟨h_5582, e_5583, e⟩ := Option.bind_eq_some_iff.mp e
  refine Rn.hp hT rfl rfl (pV_hp rfl e_5583) ?_
  refine Rn.n hT 2 (pc' := 142) (L' := [some (.ref q0)]) (st' := [.int (16 : Int32), .ref q0]) rfl ?_
  obtain ⟨⟨v_5586, h_5584⟩, e_5585, e⟩ := Option.bind_eq_some_iff.mp e
  try dsimp only at e
  refine Rn.hp hT rfl rfl (nA_hp rfl e_5585) ?_
  refine Rn.n hT 3 (pc' := 147) (L' := [some (.ref q0)]) (st' := [.int (-1 : Int32), .int (0 : Int32), .ref v_5586, .ref v_5586, .ref q0]) rfl ?_
  obtain ⟨h_5588, e_5589, e⟩ := Option.bind_eq_some_iff.mp e
  refine Rn.hp hT rfl rfl (wI_hp e_5589) ?_
  refine Rn.n hT 3 (pc' := 151) (L' := [some (.ref q0)]) (st' := [.int (-1 : Int32), .int (1 : Int32), .ref v_5586, .ref v_5586, .ref q0]) rfl ?_
  obtain ⟨h_5590, e_5591, e⟩ := Option.bind_eq_some_iff.mp e
  refine Rn.hp hT rfl rfl (wI_hp e_5591) ?_
  refine Rn.n hT 3 (pc' := 155) (L' := [some (.ref q0)]) (st' := [.int (-1 : Int32), .int (2 : Int32), .ref v_5586, .ref v_5586, .ref q0]) rfl ?_
  obtain ⟨h_5592, e_5593, e⟩ := Option.bind_eq_some_iff.mp e
  refine Rn.hp hT rfl rfl (wI_hp e_5593) ?_
  refine Rn.n hT 3 (pc' := 159) (L' := [some (.ref q0)]) (st' := [.int (-1 : Int32), .int (3 : Int32), .ref v_5586, .ref v_5586, .ref q0]) rfl ?_
  obtain ⟨h_5594, e_5595, e⟩ := Option.bind_eq_some_iff.mp e
  refine Rn.hp hT rfl rfl (wI_hp e_5595) ?_
  refine Rn.n hT 3 (pc' := 163) (L' := [some (.ref q0)]) (st' := [.int (-1 : Int32), .int (4 : Int32), .ref v_5586, .ref v_5586, .ref q0]) rfl ?_
  obtain ⟨h_5596, e_5597, e⟩ := Option.bind_eq_some_iff.mp e
  refine Rn.hp hT rfl rfl (wI_hp e_5597) ?_
  refine Rn.n hT 3 (pc' := 167) (L' := [some (.ref q0)]) (st' := [.int (-1 : Int32), .int (5 : Int32), .ref v_5586, .ref v_5586, .ref q0]) rfl ?_
  obtain ⟨h_5598, e_5599, e⟩ := Option.bind_eq_some_iff.mp e
  refine Rn.hp hT rfl rfl (wI_hp e_5599) ?_
  refine Rn.n hT 3 (pc' := 172) (L' := [some (.ref q0)]) (st' := [.int (-1 : Int32), .int (6 : Int32), .ref v_5586, .ref v_5586, .ref q0]) rfl ?_
  obtain ⟨h_5600, e_5601, e⟩ := Option.bind_eq_some_iff.mp e
  refine Rn.hp hT rfl rfl (wI_hp e_5601) ?_
  refine Rn.n hT 3 (pc' := 177) (L' := [some (.ref q0)]) (st' := [.int (-1 : Int32), .int (7 : Int32), .ref v_5586, .ref v_5586, .ref q0]) rfl ?_
  obtain ⟨h_5602, e_5603, e⟩ := Option.bind_eq_some_iff.mp e
  refine Rn.hp hT rfl rfl (wI_hp e_5603) ?_
  refine Rn.n hT 3 (pc' := 182) (L' := [some (.ref q0)]) (st' := [.int (-1 : Int32), .int (8 : Int32), .ref v_5586, .ref v_5586, .ref q0]) rfl ?_
  obtain ⟨h_5604, e_5605, e⟩ := Option.bind_eq_some_iff.mp e
  refine Rn.hp hT rfl rfl (wI_hp e_5605) ?_
  refine Rn.n hT 3 (pc' := 187) (L' := [some (.ref q0)]) (st' := [.int (-1 : Int32), .int (9 : Int32), .ref v_5586, .ref v_5586, .ref q0]) rfl ?_
  obtain ⟨h_5606, e_5607, e⟩ := Option.bind_eq_some_iff.mp e
  refine Rn.hp hT rfl rfl (wI_hp e_5607) ?_
  refine Rn.n hT 3 (pc' := 192) (L' := [some (.ref q0)]) (st' := [.int (-1 : Int32), .int (10 : Int32), .ref v_5586, .ref v_5586, .ref q0]) rfl ?_
  obtain ⟨h_5608, e_5609, e⟩ := Option.bind_eq_some_iff.mp e
  refine Rn.hp hT rfl rfl (wI_hp e_5609) ?_
  refine Rn.n hT 3 (pc' := 197) (L' := [some (.ref q0)]) (st' := [.int (-1 : Int32), .int (11 : Int32), .ref v_5586, .ref v_5586, .ref q0]) rfl ?_
  obtain ⟨h_5610, e_5611, e⟩ := Option.bind_eq_some_iff.mp e
  refine Rn.hp hT rfl rfl (wI_hp e_5611) ?_
  refine Rn.n hT 3 (pc' := 202) (L' := [some (.ref q0)]) (st' := [.int (-1 : Int32), .int (12 : Int32), .ref v_5586, .ref v_5586, .ref q0]) rfl ?_
  obtain ⟨h_5612, e_5613, e⟩ := Option.bind_eq_some_iff.mp e
  refine Rn.hp hT rfl rfl (wI_hp e_5613) ?_
  refine Rn.n hT 3 (pc' := 207) (L' := [some (.ref q0)]) (st' := [.int (-1 : Int32), .int (13 : Int32), .ref v_5586, .ref v_5586, .ref q0]) rfl ?_
  obtain ⟨h_5614, e_5615, e⟩ := Option.bind_eq_some_iff.mp e
  refine Rn.hp hT rfl rfl (wI_hp e_5615) ?_
  refine Rn.n hT 3 (pc' := 212) (L' := [some (.ref q0)]) (st' := [.int (-1 : Int32), .int (14 : Int32), .ref v_5586, .ref v_5586, .ref q0]) rfl ?_
  obtain ⟨h_5616, e_5617, e⟩ := Option.bind_eq_some_iff.mp e
  refine Rn.hp hT rfl rfl (wI_hp e_5617) ?_
  refine Rn.n hT 3 (pc' := 217) (L' := [some (.ref q0)]) (st' := [.int (-1 : Int32), .int (15 : Int32), .ref v_5586, .ref v_5586, .ref q0]) rfl ?_
  obtain ⟨h_5618, e_5619, e⟩ := Option.bind_eq_some_iff.mp e
  refine Rn.hp hT rfl rfl (wI_hp e_5619) ?_
  obtain ⟨h_5620, e_5621, e⟩ := Option.bind_eq_some_iff.mp e
  refine Rn.hp hT rfl rfl (pV_hp rfl e_5621) ?_
  refine Rn.n hT 2 (pc' := 225) (L' := [some (.ref q0)]) (st' := [.int (480 : Int32), .ref q0]) rfl ?_
  obtain ⟨⟨v_5624, h_5622⟩, e_5623, e⟩ := Option.bind_eq_some_iff.mp e
  try dsimp only at e
  refine Rn.hp hT rfl rfl (nA_hp rfl e_5623) ?_
  obtain ⟨h_5626, e_5627, e⟩ := Option.bind_eq_some_iff.mp e
  refine Rn.hp hT rfl rfl (pV_hp rfl e_5627) ?_
  refine Rn.n hT 2 (pc' := 233) (L' := [some (.ref q0)]) (st' := [.int (96 : Int32), .ref q0]) rfl ?_
  obtain ⟨⟨v_5630, h_5628⟩, e_5629, e⟩ := Option.bind_eq_some_iff.mp e
  try dsimp only at e
  refine Rn.hp hT rfl rfl (nA_hp rfl e_5629) ?_
  obtain ⟨h_5632, e_5633, e⟩ := Option.bind_eq_some_iff.mp e
  refine Rn.hp hT rfl rfl (pV_hp rfl e_5633) ?_
  refine Rn.n hT 2 (pc' := 241) (L' := [some (.ref q0)]) (st' := [.int (10 : Int32), .ref q0]) rfl ?_
  obtain ⟨⟨v_5636, h_5634⟩, e_5635, e⟩ := Option.bind_eq_some_iff.mp e
  try dsimp only at e
  refine Rn.hp hT rfl rfl (nA_hp rfl e_5635) ?_
  obtain ⟨h_5638, e_5639, e⟩ := Option.bind_eq_some_iff.mp e
  refine Rn.hp hT rfl rfl (pV_hp rfl e_5639) ?_
  refine Rn.n hT 2 (pc' := 249) (L' := [some (.ref q0)]) (st' := [.int (10 : Int32), .ref q0]) rfl ?_
  obtain ⟨⟨v_5642, h_5640⟩, e_5641, e⟩ := Option.bind_eq_some_iff.mp e
  try dsimp only at e
  refine Rn.hp hT rfl rfl (nA_hp rfl e_5641) ?_
  obtain ⟨h_5644, e_5645, e⟩ := Option.bind_eq_some_iff.mp e
  refine Rn.hp hT rfl rfl (pV_hp rfl e_5645) ?_
  refine Rn.n hT 2 (pc' := 257) (L' := [some (.ref q0)]) (st' := [.int (10 : Int32), .ref q0]) rfl ?_
  obtain ⟨⟨v_5648, h_5646⟩, e_5647, e⟩ := Option.bind_eq_some_iff.mp e
  try dsimp only at e
  refine Rn.hp hT rfl rfl (nA_hp rfl e_5647) ?_
  obtain ⟨h_5650, e_5651, e⟩ := Option.bind_eq_some_iff.mp e
  refine Rn.hp hT rfl rfl (pV_hp rfl e_5651) ?_
  refine Rn.n hT 2 (pc' := 265) (L' := [some (.ref q0)]) (st' := [.int (12 : Int32), .ref q0]) rfl ?_
  obtain ⟨⟨v_5654, h_5652⟩, e_5653, e⟩ := Option.bind_eq_some_iff.mp e
  try dsimp only at e
  refine Rn.hp hT rfl rfl (nA_hp rfl e_5653) ?_
  obtain ⟨h_5656, e_5657, e⟩ := Option.bind_eq_some_iff.mp e
  refine Rn.hp hT rfl rfl (pV_hp rfl e_5657) ?_
  refine Rn.n hT 2 (pc' := 273) (L' := [some (.ref q0)]) (st' := [.int (12 : Int32), .ref q0]) rfl ?_
  obtain ⟨⟨v_5660, h_5658⟩, e_5659, e⟩ := Option.bind_eq_some_iff.mp e
  try dsimp only at e
  refine Rn.hp hT rfl rfl (nA_hp rfl e_5659) ?_
  obtain ⟨h_5662, e_5663, e⟩ := Option.bind_eq_some_iff.mp e
  refine Rn.hp hT rfl rfl (pV_hp rfl e_5663) ?_
  refine Rn.n hT 2 (pc' := 281) (L' := [some (.ref q0)]) (st' := [.int (12 : Int32), .ref q0]) rfl ?_
  obtain ⟨⟨v_5666, h_5664⟩, e_5665, e⟩ := Option.bind_eq_some_iff.mp e
  try dsimp only at e
  refine Rn.hp hT rfl rfl (nA_hp rfl e_5665) ?_
  obtain ⟨h_5668, e_5669, e⟩ := Option.bind_eq_some_iff.mp e
  refine Rn.hp hT rfl rfl (pV_hp rfl e_5669) ?_
  refine Rn.n hT 2 (pc' := 289) (L' := [some (.ref q0)]) (st' := [.int (8 : Int32), .ref q0]) rfl ?_
  obtain ⟨⟨v_5672, h_5670⟩, e_5671, e⟩ := Option.bind_eq_some_iff.mp e
  try dsimp only at e
  refine Rn.hp hT rfl rfl (nA_hp rfl e_5671) ?_
  obtain ⟨h_5674, e_5675, e⟩ := Option.bind_eq_some_iff.mp e
  refine Rn.hp hT rfl rfl (pV_hp rfl e_5675) ?_
  refine Rn.n hT 2 (pc' := 297) (L' := [some (.ref q0)]) (st' := [.int (8 : Int32), .ref q0]) rfl ?_
  obtain ⟨⟨v_5678, h_5676⟩, e_5677, e⟩ := Option.bind_eq_some_iff.mp e
  try dsimp only at e
  refine Rn.hp hT rfl rfl (nA_hp rfl e_5677) ?_
  obtain ⟨h_5680, e_5681, e⟩ := Option.bind_eq_some_iff.mp e
  refine Rn.hp hT rfl rfl (pV_hp rfl e_5681) ?_
  refine Rn.n hT 2 (pc' := 304) (L' := [some (.ref q0)]) (st' := [.int (5 : Int32), .ref q0]) rfl ?_
  obtain ⟨⟨v_5684, h_5682⟩, e_5683, e⟩ := Option.bind_eq_some_iff.mp e
  try dsimp only at e
  refine Rn.hp hT rfl rfl (nA_hp rfl e_5683) ?_
  obtain ⟨h_5686, e_5687, e⟩ := Option.bind_eq_some_iff.mp e
  refine Rn.hp hT rfl rfl (pV_hp rfl e_5687) ?_
  refine Rn.n hT 2 (pc' := 312) (L' := [some (.ref q0)]) (st' := [.int (48 : Int32), .ref q0]) rfl ?_
  obtain ⟨⟨v_5690, h_5688⟩, e_5689, e⟩ := Option.bind_eq_some_iff.mp e
  try dsimp only at e
  refine Rn.hp hT rfl rfl (nA_hp rfl e_5689) ?_
  obtain ⟨h_5692, e_5693, e⟩ := Option.bind_eq_some_iff.mp e
  refine Rn.hp hT rfl rfl (pV_hp rfl e_5693) ?_
  refine Rn.n hT 2 (pc' := 320) (L' := [some (.ref q0)]) (st' := [.int (12 : Int32), .ref q0]) rfl ?_
  obtain ⟨⟨v_5696, h_5694⟩, e_5695, e⟩ := Option.bind_eq_some_iff.mp e
  try dsimp only at e
  refine Rn.hp hT rfl rfl (nA_hp rfl e_5695) ?_
  obtain ⟨h_5698, e_5699, e⟩ := Option.bind_eq_some_iff.mp e
  refine Rn.hp hT rfl rfl (pV_hp rfl e_5699) ?_
  refine Rn.n hT 2 (pc' := 328) (L' := [some (.ref q0)]) (st' := [.int (12 : Int32), .ref q0]) rfl ?_
  obtain ⟨⟨v_5702, h_5700⟩, e_5701, e⟩ := Option.bind_eq_some_iff.mp e
  try dsimp only at e
  refine Rn.hp hT rfl rfl (nA_hp rfl e_5701) ?_
  obtain ⟨h_5704, e_5705, e⟩ := Option.bind_eq_some_iff.mp e
  refine Rn.hp hT rfl rfl (pV_hp rfl e_5705) ?_
  refine Rn.n hT 2 (pc' := 335) (L' := [some (.ref q0)]) (st' := [.int (4 : Int32), .ref q0]) rfl ?_
  obtain ⟨⟨v_5708, h_5706⟩, e_5707, e⟩ := Option.bind_eq_some_iff.mp e
  try dsimp only at e
  refine Rn.hp hT rfl rfl (nA_hp rfl e_5707) ?_
  obtain ⟨h_5710, e_5711, e⟩ := Option.bind_eq_some_iff.mp e
  refine Rn.hp hT rfl rfl (pV_hp rfl e_5711) ?_
  refine Rn.n hT 2 (pc' := 343) (L' := [some (.ref q0)]) (st' := [.int (6 : Int32), .ref q0]) rfl ?_
  obtain ⟨⟨v_5714, h_5712⟩, e_5713, e⟩ := Option.bind_eq_some_iff.mp e
  try dsimp only at e
  refine Rn.hp hT rfl rfl (nA_hp rfl e_5713) ?_
  obtain ⟨h_5716, e_5717, e⟩ := Option.bind_eq_some_iff.mp e
  refine Rn.hp hT rfl rfl (pV_hp rfl e_5717) ?_
  refine Rn.n hT 2 (pc' := 351) (L' := [some (.ref q0)]) (st' := [.int (16 : Int32), .ref q0]) rfl ?_
  obtain ⟨⟨v_5720, h_5718⟩, e_5719, e⟩ := Option.bind_eq_some_iff.mp e
  try dsimp only at e
  refine Rn.hp hT rfl rfl (nA_hp rfl e_5719) ?_
  obtain ⟨h_5722, e_5723, e⟩ := Option.bind_eq_some_iff.mp e
  refine Rn.hp hT rfl rfl (pV_hp rfl e_5723) ?_
  refine Rn.n hT 2 (pc' := 359) (L' := [some (.ref q0)]) (st' := [.int (13 : Int32), .ref q0]) rfl ?_
  obtain ⟨h_5724, e_5725, e⟩ := Option.bind_eq_some_iff.mp e
  refine Rn.hp hT rfl rfl (pV_hp rfl e_5725) ?_
  refine Rn.n hT 2 (pc' := 366) (L' := [some (.ref q0)]) (st' := [.int (400 : Int32), .ref q0]) rfl ?_
  obtain ⟨⟨v_5728, h_5726⟩, e_5727, e⟩ := Option.bind_eq_some_iff.mp e
  try dsimp only at e
  refine Rn.hp hT rfl rfl (nA_hp rfl e_5727) ?_
  obtain ⟨h_5730, e_5731, e⟩ := Option.bind_eq_some_iff.mp e
  refine Rn.hp hT rfl rfl (pV_hp rfl e_5731) ?_
  refine Rn.n hT 2 (pc' := 375) (L' := [some (.ref q0)]) (st' := [.int (1800 : Int32), .ref q0]) rfl ?_
  obtain ⟨⟨v_5734, h_5732⟩, e_5733, e⟩ := Option.bind_eq_some_iff.mp e
  try dsimp only at e
  refine Rn.hp hT rfl rfl (nA_hp rfl e_5733) ?_
  obtain ⟨h_5736, e_5737, e⟩ := Option.bind_eq_some_iff.mp e
  refine Rn.hp hT rfl rfl (pV_hp rfl e_5737) ?_
  refine Rn.n hT 2 (pc' := 384) (L' := [some (.ref q0)]) (st' := [.int (1800 : Int32), .ref q0]) rfl ?_
  obtain ⟨⟨v_5740, h_5738⟩, e_5739, e⟩ := Option.bind_eq_some_iff.mp e
  try dsimp only at e
  refine Rn.hp hT rfl rfl (nA_hp rfl e_5739) ?_
  obtain ⟨h_5742, e_5743, e⟩ := Option.bind_eq_some_iff.mp e
  refine Rn.hp hT rfl rfl (pV_hp rfl e_5743) ?_
  refine Rn.n hT 2 (pc' := 392) (L' := [some (.ref q0)]) (st' := [.int (6 : Int32), .ref q0]) rfl ?_
  obtain ⟨⟨v_5746, h_5744⟩, e_5745, e⟩ := Option.bind_eq_some_iff.mp e
  try dsimp only at e
  refine Rn.hp hT rfl rfl (nA_hp rfl e_5745) ?_
  obtain ⟨h_5748, e_5749, e⟩ := Option.bind_eq_some_iff.mp e
  refine Rn.hp hT rfl rfl (pV_hp rfl e_5749) ?_
  refine Rn.n hT 2 (pc' := 400) (L' := [some (.ref q0)]) (st' := [.int (72 : Int32), .ref q0]) rfl ?_
  obtain ⟨⟨v_5752, h_5750⟩, e_5751, e⟩ := Option.bind_eq_some_iff.mp e
  try dsimp only at e
  refine Rn.hp hT rfl rfl (nA_hp rfl e_5751) ?_
  obtain ⟨h_5754, e_5755, e⟩ := Option.bind_eq_some_iff.mp e
  refine Rn.hp hT rfl rfl (pV_hp rfl e_5755) ?_
  refine Rn.n hT 2 (pc' := 408) (L' := [some (.ref q0)]) (st' := [.int (72 : Int32), .ref q0]) rfl ?_
  obtain ⟨⟨v_5758, h_5756⟩, e_5757, e⟩ := Option.bind_eq_some_iff.mp e
  try dsimp only at e
  refine Rn.hp hT rfl rfl (nA_hp rfl e_5757) ?_
  obtain ⟨h_5760, e_5761, e⟩ := Option.bind_eq_some_iff.mp e
  refine Rn.hp hT rfl rfl (pV_hp rfl e_5761) ?_
  refine Rn.n hT 2 (pc' := 417) (L' := [some (.ref q0)]) (st' := [.int (402 : Int32), .ref q0]) rfl ?_
  obtain ⟨⟨v_5764, h_5762⟩, e_5763, e⟩ := Option.bind_eq_some_iff.mp e
  try dsimp only at e
  refine Rn.hp hT rfl rfl (nA_hp rfl e_5763) ?_
  obtain ⟨h_5766, e_5767, e⟩ := Option.bind_eq_some_iff.mp e
  refine Rn.hp hT rfl rfl (pV_hp rfl e_5767) ?_
  refine Rn.n hT 2 (pc' := 425) (L' := [some (.ref q0)]) (st' := [.int (13 : Int32), .ref q0]) rfl ?_
  obtain ⟨⟨v_5770, h_5768⟩, e_5769, e⟩ := Option.bind_eq_some_iff.mp e
  try dsimp only at e
  refine Rn.hp hT rfl rfl (nA_hp rfl e_5769) ?_
  obtain ⟨h_5772, e_5773, e⟩ := Option.bind_eq_some_iff.mp e
  refine Rn.hp hT rfl rfl (pV_hp rfl e_5773) ?_
  refine Rn.n hT 2 (pc' := 434) (L' := [some (.ref q0)]) (st' := [.int (300 : Int32), .ref q0]) rfl ?_
  obtain ⟨⟨v_5776, h_5774⟩, e_5775, e⟩ := Option.bind_eq_some_iff.mp e
  try dsimp only at e
  refine Rn.hp hT rfl rfl (nA_hp rfl e_5775) ?_
  obtain ⟨h_5778, e_5779, e⟩ := Option.bind_eq_some_iff.mp e
  refine Rn.hp hT rfl rfl (pV_hp rfl e_5779) ?_
  refine Rn.n hT 2 (pc' := 443) (L' := [some (.ref q0)]) (st' := [.int (1501 : Int32), .ref q0]) rfl ?_
  obtain ⟨⟨v_5782, h_5780⟩, e_5781, e⟩ := Option.bind_eq_some_iff.mp e
  try dsimp only at e
  refine Rn.hp hT rfl rfl (nA_hp rfl e_5781) ?_
  obtain ⟨h_5784, e_5785, e⟩ := Option.bind_eq_some_iff.mp e
  refine Rn.hp hT rfl rfl (pV_hp rfl e_5785) ?_
  refine Rn.n hT 2 (pc' := 452) (L' := [some (.ref q0)]) (st' := [.int (1501 : Int32), .ref q0]) rfl ?_
  obtain ⟨⟨v_5788, h_5786⟩, e_5787, e⟩ := Option.bind_eq_some_iff.mp e
  try dsimp only at e
  refine Rn.hp hT rfl rfl (nA_hp rfl e_5787) ?_
  obtain ⟨h_5790, e_5791, e⟩ := Option.bind_eq_some_iff.mp e
  refine Rn.hp hT rfl rfl (pV_hp rfl e_5791) ?_
  refine Rn.n hT 2 (pc' := 461) (L' := [some (.ref q0)]) (st' := [.int (1501 : Int32), .ref q0]) rfl ?_
  obtain ⟨⟨v_5794, h_5792⟩, e_5793, e⟩ := Option.bind_eq_some_iff.mp e
  try dsimp only at e
  refine Rn.hp hT rfl rfl (nA_hp rfl e_5793) ?_
  obtain ⟨h_5796, e_5797, e⟩ := Option.bind_eq_some_iff.mp e
  refine Rn.hp hT rfl rfl (pV_hp rfl e_5797) ?_
  refine Rn.n hT 2 (pc' := 470) (L' := [some (.ref q0)]) (st' := [.int (1501 : Int32), .ref q0]) rfl ?_
  obtain ⟨⟨v_5800, h_5798⟩, e_5799, e⟩ := Option.bind_eq_some_iff.mp e
  try dsimp only at e
  refine Rn.hp hT rfl rfl (nA_hp rfl e_5799) ?_
  obtain ⟨h_5802, e_5803, e⟩ := Option.bind_eq_some_iff.mp e
  refine Rn.hp hT rfl rfl (pV_hp rfl e_5803) ?_
  refine Rn.n hT 2 (pc' := 479) (L' := [some (.ref q0)]) (st' := [.int (4096 : Int32), .ref q0]) rfl ?_
  obtain ⟨⟨v_5806, h_5804⟩, e_5805, e⟩ := Option.bind_eq_some_iff.mp e
  try dsimp only at e
  refine Rn.hp hT rfl rfl (nA_hp rfl e_5805) ?_
  obtain ⟨h_5808, e_5809, e⟩ := Option.bind_eq_some_iff.mp e
  refine Rn.hp hT rfl rfl (pV_hp rfl e_5809) ?_
  refine Rn.n hT 2 (pc' := 488) (L' := [some (.ref q0)]) (st' := [.int (4096 : Int32), .ref q0]) rfl ?_
  obtain ⟨⟨v_5812, h_5810⟩, e_5811, e⟩ := Option.bind_eq_some_iff.mp e
  try dsimp only at e
  refine Rn.hp hT rfl rfl (nA_hp rfl e_5811) ?_
  obtain ⟨h_5814, e_5815, e⟩ := Option.bind_eq_some_iff.mp e
  refine Rn.hp hT rfl rfl (pV_hp rfl e_5815) ?_
  refine Rn.n hT 2 (pc' := 496) (L' := [some (.ref q0)]) (st' := [.int (24 : Int32), .ref q0]) rfl ?_
  obtain ⟨⟨v_5818, h_5816⟩, e_5817, e⟩ := Option.bind_eq_some_iff.mp e
  try dsimp only at e
  refine Rn.hp hT rfl rfl (nA_hp rfl e_5817) ?_
  obtain ⟨h_5820, e_5821, e⟩ := Option.bind_eq_some_iff.mp e
  refine Rn.hp hT rfl rfl (pV_hp rfl e_5821) ?_
  refine Rn.n hT 2 (pc' := 504) (L' := [some (.ref q0)]) (st' := [.int (16 : Int32), .ref q0]) rfl ?_
  obtain ⟨⟨v_5824, h_5822⟩, e_5823, e⟩ := Option.bind_eq_some_iff.mp e
  try dsimp only at e
  refine Rn.hp hT rfl rfl (nA_hp rfl e_5823) ?_
  obtain ⟨h_5826, e_5827, e⟩ := Option.bind_eq_some_iff.mp e
  refine Rn.hp hT rfl rfl (pV_hp rfl e_5827) ?_
  refine Rn.n hT 2 (pc' := 512) (L' := [some (.ref q0)]) (st' := [.int (16 : Int32), .ref q0]) rfl ?_
  obtain ⟨⟨v_5830, h_5828⟩, e_5829, e⟩ := Option.bind_eq_some_iff.mp e
  try dsimp only at e
  refine Rn.hp hT rfl rfl (nA_hp rfl e_5829) ?_
  obtain ⟨h_5832, e_5833, e⟩ := Option.bind_eq_some_iff.mp e
  refine Rn.hp hT rfl rfl (pV_hp rfl e_5833) ?_
  refine Rn.n hT 2 (pc' := 520) (L' := [some (.ref q0)]) (st' := [.int (12 : Int32), .ref q0]) rfl ?_
  obtain ⟨⟨v_5836, h_5834⟩, e_5835, e⟩ := Option.bind_eq_some_iff.mp e
  try dsimp only at e
  refine Rn.hp hT rfl rfl (nA_hp rfl e_5835) ?_
  obtain ⟨h_5838, e_5839, e⟩ := Option.bind_eq_some_iff.mp e
  refine Rn.hp hT rfl rfl (pV_hp rfl e_5839) ?_
  refine Rn.n hT 2 (pc' := 528) (L' := [some (.ref q0)]) (st' := [.int (13 : Int32), .ref q0]) rfl ?_
  obtain ⟨⟨v_5842, h_5840⟩, e_5841, e⟩ := Option.bind_eq_some_iff.mp e
  try dsimp only at e
  refine Rn.hp hT rfl rfl (nA_hp rfl e_5841) ?_
  obtain ⟨h_5844, e_5845, e⟩ := Option.bind_eq_some_iff.mp e
  refine Rn.hp hT rfl rfl (pV_hp rfl e_5845) ?_
  refine Rn.n hT 2 (pc' := 536) (L' := [some (.ref q0)]) (st' := [.int (12 : Int32), .ref q0]) rfl ?_
  obtain ⟨⟨v_5848, h_5846⟩, e_5847, e⟩ := Option.bind_eq_some_iff.mp e
  try dsimp only at e
  refine Rn.hp hT rfl rfl (nA_hp rfl e_5847) ?_
  obtain ⟨h_5850, e_5851, e⟩ := Option.bind_eq_some_iff.mp e
  refine Rn.hp hT rfl rfl (pV_hp rfl e_5851) ?_
  refine Rn.n hT 2 (pc' := 545) (L' := [some (.ref q0)]) (st' := [.int (192 : Int32), .ref q0]) rfl ?_
  obtain ⟨⟨v_5854, h_5852⟩, e_5853, e⟩ := Option.bind_eq_some_iff.mp e
  try dsimp only at e
  refine Rn.hp hT rfl rfl (nA_hp rfl e_5853) ?_
  obtain ⟨h_5856, e_5857, e⟩ := Option.bind_eq_some_iff.mp e
  refine Rn.hp hT rfl rfl (pV_hp rfl e_5857) ?_
  refine Rn.n hT 2 (pc' := 554) (L' := [some (.ref q0)]) (st' := [.int (192 : Int32), .ref q0]) rfl ?_
  obtain ⟨⟨v_5860, h_5858⟩, e_5859, e⟩ := Option.bind_eq_some_iff.mp e
  try dsimp only at e
  refine Rn.hp hT rfl rfl (nA_hp rfl e_5859) ?_
  obtain ⟨h_5862, e_5863, e⟩ := Option.bind_eq_some_iff.mp e
  refine Rn.hp hT rfl rfl (pV_hp rfl e_5863) ?_
  refine Rn.n hT 2 (pc' := 563) (L' := [some (.ref q0)]) (st' := [.int (132 : Int32), .ref q0]) rfl ?_
  obtain ⟨⟨v_5866, h_5864⟩, e_5865, e⟩ := Option.bind_eq_some_iff.mp e
  try dsimp only at e
  refine Rn.hp hT rfl rfl (nA_hp rfl e_5865) ?_
  obtain ⟨h_5868, e_5869, e⟩ := Option.bind_eq_some_iff.mp e
  refine Rn.hp hT rfl rfl (pV_hp rfl e_5869) ?_
  refine Rn.n hT 2 (pc' := 571) (L' := [some (.ref q0)]) (st' := [.int (6 : Int32), .ref q0]) rfl ?_
  obtain ⟨⟨v_5872, h_5870⟩, e_5871, e⟩ := Option.bind_eq_some_iff.mp e
  try dsimp only at e
  refine Rn.hp hT rfl rfl (nA_hp rfl e_5871) ?_
  obtain ⟨h_5874, e_5875, e⟩ := Option.bind_eq_some_iff.mp e
  refine Rn.hp hT rfl rfl (pV_hp rfl e_5875) ?_
  refine Rn.n hT 2 (pc' := 579) (L' := [some (.ref q0)]) (st' := [.int (7 : Int32), .ref q0]) rfl ?_
  obtain ⟨⟨v_5878, h_5876⟩, e_5877, e⟩ := Option.bind_eq_some_iff.mp e
  try dsimp only at e
  refine Rn.hp hT rfl rfl (nA_hp rfl e_5877) ?_
  obtain ⟨h_5880, e_5881, e⟩ := Option.bind_eq_some_iff.mp e
  refine Rn.hp hT rfl rfl (pV_hp rfl e_5881) ?_
  refine Rn.n hT 2 (pc' := 587) (L' := [some (.ref q0)]) (st' := [.int (7 : Int32), .ref q0]) rfl ?_
  obtain ⟨⟨v_5884, h_5882⟩, e_5883, e⟩ := Option.bind_eq_some_iff.mp e
  try dsimp only at e
  refine Rn.hp hT rfl rfl (nA_hp rfl e_5883) ?_
  obtain ⟨h_5886, e_5887, e⟩ := Option.bind_eq_some_iff.mp e
  refine Rn.hp hT rfl rfl (pV_hp rfl e_5887) ?_
  refine Rn.n hT 2 (pc' := 595) (L' := [some (.ref q0)]) (st' := [.int (6 : Int32), .ref q0]) rfl ?_
  obtain ⟨⟨v_5890, h_5888⟩, e_5889, e⟩ := Option.bind_eq_some_iff.mp e
  try dsimp only at e
  refine Rn.hp hT rfl rfl (nA_hp rfl e_5889) ?_
  obtain ⟨h_5892, e_5893, e⟩ := Option.bind_eq_some_iff.mp e
  refine Rn.hp hT rfl rfl (pV_hp rfl e_5893) ?_
  refine Rn.n hT 2 (pc' := 603) (L' := [some (.ref q0)]) (st' := [.int (72 : Int32), .ref q0]) rfl ?_
  obtain ⟨⟨v_5896, h_5894⟩, e_5895, e⟩ := Option.bind_eq_some_iff.mp e
  try dsimp only at e
  refine Rn.hp hT rfl rfl (nA_hp rfl e_5895) ?_
  obtain ⟨h_5898, e_5899, e⟩ := Option.bind_eq_some_iff.mp e
  refine Rn.hp hT rfl rfl (pV_hp rfl e_5899) ?_
  refine Rn.n hT 2 (pc' := 610) (L' := [some (.ref q0)]) (st' := [.int (4 : Int32), .ref q0]) rfl ?_
  obtain ⟨⟨v_5902, h_5900⟩, e_5901, e⟩ := Option.bind_eq_some_iff.mp e
  try dsimp only at e
  refine Rn.hp hT rfl rfl (nA_hp rfl e_5901) ?_
  obtain ⟨h_5904, e_5905, e⟩ := Option.bind_eq_some_iff.mp e
  refine Rn.hp hT rfl rfl (pV_hp rfl e_5905) ?_
  refine Rn.n hT 2 (pc' := 617) (L' := [some (.ref q0)]) (st' := [.int (4 : Int32), .ref q0]) rfl ?_
  obtain ⟨⟨v_5908, h_5906⟩, e_5907, e⟩ := Option.bind_eq_some_iff.mp e
  try dsimp only at e
  refine Rn.hp hT rfl rfl (nA_hp rfl e_5907) ?_
  obtain ⟨h_5910, e_5911, e⟩ := Option.bind_eq_some_iff.mp e
  refine Rn.hp hT rfl rfl (pV_hp rfl e_5911) ?_
  refine Rn.n hT 2 (pc' := 624) (L' := [some (.ref q0)]) (st' := [.int (3 : Int32), .ref q0]) rfl ?_
  obtain ⟨⟨v_5914, h_5912⟩, e_5913, e⟩ := Option.bind_eq_some_iff.mp e
  try dsimp only at e
  refine Rn.hp hT rfl rfl (nA_hp rfl e_5913) ?_
  obtain ⟨h_5916, e_5917, e⟩ := Option.bind_eq_some_iff.mp e
  refine Rn.hp hT rfl rfl (pV_hp rfl e_5917) ?_
  refine Rn.n hT 2 (pc' := 631) (L' := [some (.ref q0)]) (st' := [.int (4 : Int32), .ref q0]) rfl ?_
  obtain ⟨⟨v_5920, h_5918⟩, e_5919, e⟩ := Option.bind_eq_some_iff.mp e
  try dsimp only at e
  refine Rn.hp hT rfl rfl (nA_hp rfl e_5919) ?_
  obtain ⟨h_5922, e_5923, e⟩ := Option.bind_eq_some_iff.mp e
  refine Rn.hp hT rfl rfl (pV_hp rfl e_5923) ?_
  refine Rn.n hT 2 (pc' := 640) (L' := [some (.ref q0)]) (st' := [.int (3440 : Int32), .ref q0]) rfl ?_
  obtain ⟨⟨v_5926, h_5924⟩, e_5925, e⟩ := Option.bind_eq_some_iff.mp e
  try dsimp only at e
  refine Rn.hp hT rfl rfl (nA_hp rfl e_5925) ?_
  obtain ⟨h_5928, e_5929, e⟩ := Option.bind_eq_some_iff.mp e
  refine Rn.hp hT rfl rfl (pV_hp rfl e_5929) ?_
  refine Rn.n hT 2 (pc' := 647) (L' := [some (.ref q0)]) (st' := [.int (4 : Int32), .ref q0]) rfl ?_
  obtain ⟨⟨v_5932, h_5930⟩, e_5931, e⟩ := Option.bind_eq_some_iff.mp e
  try dsimp only at e
  refine Rn.hp hT rfl rfl (nA_hp rfl e_5931) ?_
  obtain ⟨h_5934, e_5935, e⟩ := Option.bind_eq_some_iff.mp e
  refine Rn.hp hT rfl rfl (pV_hp rfl e_5935) ?_
  obtain rfl := Option.some.inj e
  exact Rn.ret hT rfl rfl rfl hq
set_option maxRecDepth 10000 in
theorem hX12_in : iv_Tb 190 tX12_in := iv_tb_of (m := mX12_in) rfl
set_option maxRecDepth 10000 in
theorem gX12_in : PG.2 190 = some mX12_in := iv_pi_of (t := tX12_in) rfl (by decide)
def fX12_in_b18 (N : Nat) (h : iv_H)  (s0 : Int32) : Option (Int32) := (if s0 = 0 ∨ s0 = 1 then some s0 else none)
set_option maxRecDepth 10000 in
set_option maxHeartbeats 4000000 in
theorem rX12_in_b18 {d N : Nat} (hd : 0 ≤ d) {h : iv_H}  {s0 : Int32} {r : Int32} {Q : Option Value → iv_H → Prop} (hq : Q (some (.int r)) h) (e : fX12_in_b18 N h  s0 = some r) : Rn d 190 (some .boolean) 18 [none, none, none, none, none, none] [.int s0] h Q := by
  have hT := hX12_in
  unfold fX12_in_b18 at e
  by_cases c_5938 : s0 = 0 ∨ s0 = 1
  · rw [if_pos c_5938] at e
    obtain rfl := Option.some.inj e
    exact Rn.ret hT rfl rfl (if_pos c_5938) hq
  · rw [if_neg c_5938] at e
    cases e
def fX12_in_b17 (N : Nat) (h : iv_H)   : Option (Int32) := (fX12_in_b18 N h (0 : Int32))
set_option maxRecDepth 10000 in
set_option maxHeartbeats 4000000 in
theorem rX12_in_b17 {d N : Nat} (hd : 0 ≤ d) {h : iv_H}   {r : Int32} {Q : Option Value → iv_H → Prop} (hq : Q (some (.int r)) h) (e : fX12_in_b17 N h   = some r) : Rn d 190 (some .boolean) 17 [none, none, none, none, none, none] [] h Q := by
  have hT := hX12_in
  unfold fX12_in_b17 at e
  refine Rn.n hT 1 (pc' := 18) (L' := [none, none, none, none, none, none]) (st' := [.int (0 : Int32)]) rfl ?_
  exact Rn.weak (ll_n (ll_n (ll_n (ll_n (ll_n (ll_n ll_e)))))) (rX12_in_b18 hd hq e)
def fX12_in (N : Nat) (h : iv_H) (y0 : Int64) (y2 : Int64) (y4 : Int64) : Option (Int32) := (if (lg_cmp y0 y2) < 0 then (fX12_in_b17 N h) else (if 0 < (lg_cmp y0 y4) then (fX12_in_b17 N h) else (fX12_in_b18 N h (1 : Int32))))
set_option maxRecDepth 10000 in
set_option maxHeartbeats 4000000 in
theorem rX12_in {d N : Nat} (hd : 1 ≤ d) {h : iv_H} {y0 : Int64} {y2 : Int64} {y4 : Int64} {r : Int32} {Q : Option Value → iv_H → Prop} (e : fX12_in N h y0 y2 y4 = some r) (hq : Q (some (.int r)) h) : Cl d 190 [.long y0, .long y2, .long y4] h Q := by
  obtain ⟨d, rfl⟩ : ∃ k, d = k + 1 := ⟨d - 1, by omega⟩
  have hd : 0 ≤ d := by omega
  have hT := hX12_in
  unfold fX12_in at e
  refine Cl.into (by decide) gX12_in rfl ?_
  show Rn d 190 (some .boolean) 0 [some (.long y0), none, some (.long y2), none, some (.long y4), none] [] h Q
  refine Rn.n hT 3 (pc' := 3) (L' := [some (.long y0), none, some (.long y2), none, some (.long y4), none]) (st' := [.int (lg_cmp y0 y2)]) rfl ?_
  by_cases c_5936 : (lg_cmp y0 y2) < 0
  · rw [if_pos c_5936] at e
    refine Rn.bt hT rfl rfl rfl (decide_eq_true c_5936) ?_
    exact Rn.weak (ll_n (ll_n (ll_n (ll_n (ll_n (ll_n ll_e)))))) (rX12_in_b17 hd hq e)
  · rw [if_neg c_5936] at e
    refine Rn.bf hT rfl rfl rfl (decide_eq_false c_5936) ?_
    refine Rn.n hT 3 (pc' := 10) (L' := [some (.long y0), none, some (.long y2), none, some (.long y4), none]) (st' := [.int (lg_cmp y0 y4)]) rfl ?_
    by_cases c_5937 : 0 < (lg_cmp y0 y4)
    · rw [if_pos c_5937] at e
      refine Rn.bt hT rfl rfl rfl (decide_eq_true c_5937) ?_
      exact Rn.weak (ll_n (ll_n (ll_n (ll_n (ll_n (ll_n ll_e)))))) (rX12_in_b17 hd hq e)
    · rw [if_neg c_5937] at e
      refine Rn.bf hT rfl rfl rfl (decide_eq_false c_5937) ?_
      refine Rn.n hT 2 (pc' := 18) (L' := [some (.long y0), none, some (.long y2), none, some (.long y4), none]) (st' := [.int (1 : Int32)]) rfl ?_
      exact Rn.weak (ll_n (ll_n (ll_n (ll_n (ll_n (ll_n ll_e)))))) (rX12_in_b18 hd hq e)
set_option maxRecDepth 10000 in
theorem hX12_bits : iv_Tb 191 tX12_bits := iv_tb_of (m := mX12_bits) rfl
set_option maxRecDepth 10000 in
theorem gX12_bits : PG.2 191 = some mX12_bits := iv_pi_of (t := tX12_bits) rfl (by decide)
def fX12_bits_l4 (N : Nat) (h : iv_H) (x0 : Int32) (kx : Int32 → Option (Int32)) : Nat → Int32 → Int32 → Option (Int32)
  | 0, _, _ => none
  | n + 1, x1, x2 => (if (16 : Int32) ≤ x2 then (kx x1) else (fX12_bits_l4 N h x0 kx n (x1 + ((x0 >>> (x2 &&& 31)) &&& (1 : Int32))) (x2 + (1 : Int32))))
set_option maxRecDepth 10000 in
set_option maxHeartbeats 4000000 in
theorem rX12_bits_l4 {d N : Nat} (hd : 0 ≤ d) {h : iv_H} {x0 : Int32} {kx : Int32 → Option (Int32)} {r : Int32} {Q : Option Value → iv_H → Prop} (hk : ∀ (x1 : Int32), kx x1 = some r → Rn d 191 (some .int) 24 [none, some (.int x1), none] [] h Q) (hq : Q (some (.int r)) h) : ∀ (n : Nat) (x1 : Int32) (x2 : Int32), fX12_bits_l4 N h x0 kx n x1 x2 = some r → Rn d 191 (some .int) 4 [some (.int x0), some (.int x1), some (.int x2)] [] h Q := by
  have hT := hX12_bits
  intro n
  induction n with
  | zero =>
    intro x1 x2 e
    rw [fX12_bits_l4] at e
    cases e
  | succ n ih =>
    intro x1 x2 e
    rw [fX12_bits_l4] at e
    refine Rn.n hT 2 (pc' := 7) (L' := [some (.int x0), some (.int x1), some (.int x2)]) (st' := [.int (16 : Int32), .int x2]) rfl ?_
    by_cases c_5940 : (16 : Int32) ≤ x2
    · rw [if_pos c_5940] at e
      refine Rn.bt hT rfl rfl rfl (decide_eq_true c_5940) ?_
      exact Rn.weak (ll_n (ll_s (ll_n ll_e))) (hk x1 e)
    · rw [if_neg c_5940] at e
      refine Rn.bf hT rfl rfl rfl (decide_eq_false c_5940) ?_
      refine Rn.n hT 10 (pc' := 4) (L' := [some (.int x0), some (.int (x1 + ((x0 >>> (x2 &&& 31)) &&& (1 : Int32)))), some (.int (x2 + (1 : Int32)))]) (st' := []) rfl ?_
      exact Rn.weak (ll_s (ll_s (ll_s ll_e))) (ih (x1 + ((x0 >>> (x2 &&& 31)) &&& (1 : Int32))) (x2 + (1 : Int32)) e)
def fX12_bits (N : Nat) (h : iv_H) (x0 : Int32) : Option (Int32) := (fX12_bits_l4 N h x0 (fun (z_5939 : Int32) => (some z_5939)) N (0 : Int32) (0 : Int32))
set_option maxRecDepth 10000 in
set_option maxHeartbeats 4000000 in
theorem rX12_bits {d N : Nat} (hd : 1 ≤ d) {h : iv_H} {x0 : Int32} {r : Int32} {Q : Option Value → iv_H → Prop} (e : fX12_bits N h x0 = some r) (hq : Q (some (.int r)) h) : Cl d 191 [.int x0] h Q := by
  obtain ⟨d, rfl⟩ : ∃ k, d = k + 1 := ⟨d - 1, by omega⟩
  have hd : 0 ≤ d := by omega
  have hT := hX12_bits
  unfold fX12_bits at e
  refine Cl.into (by decide) gX12_bits rfl ?_
  show Rn d 191 (some .int) 0 [some (.int x0), none, none] [] h Q
  refine Rn.n hT 4 (pc' := 4) (L' := [some (.int x0), some (.int (0 : Int32)), some (.int (0 : Int32))]) (st' := []) rfl ?_
  refine Rn.weak (ll_s (ll_s (ll_s ll_e))) (rX12_bits_l4 hd (fun z_5939 e => ?_) hq N (0 : Int32) (0 : Int32) e)
  try dsimp only at e
  refine Rn.n hT 1 (pc' := 25) (L' := [none, some (.int z_5939), none]) (st' := [.int z_5939]) rfl ?_
  obtain rfl := Option.some.inj e
  exact Rn.ret hT rfl rfl rfl hq
set_option maxRecDepth 10000 in
theorem hX12_apart : iv_Tb 192 tX12_apart := iv_tb_of (m := mX12_apart) rfl
set_option maxRecDepth 10000 in
theorem gX12_apart : PG.2 192 = some mX12_apart := iv_pi_of (t := tX12_apart) rfl (by decide)
def fX12_apart_b14 (N : Nat) (h : iv_H)  (s0 : Int32) : Option (Int32) := (some s0)
set_option maxRecDepth 10000 in
set_option maxHeartbeats 4000000 in
theorem rX12_apart_b14 {d N : Nat} (hd : 0 ≤ d) {h : iv_H}  {s0 : Int32} {r : Int32} {Q : Option Value → iv_H → Prop} (hq : Q (some (.int r)) h) (e : fX12_apart_b14 N h  s0 = some r) : Rn d 192 (some .int) 14 [none, none] [.int s0] h Q := by
  have hT := hX12_apart
  unfold fX12_apart_b14 at e
  obtain rfl := Option.some.inj e
  exact Rn.ret hT rfl rfl rfl hq
def fX12_apart (N : Nat) (h : iv_H) (x0 : Int32) (x1 : Int32) : Option (Int32) := (if x1 ≤ x0 then (fX12_apart_b14 N h (x0 - x1)) else (fX12_apart_b14 N h (x1 - x0)))
set_option maxRecDepth 10000 in
set_option maxHeartbeats 4000000 in
theorem rX12_apart {d N : Nat} (hd : 1 ≤ d) {h : iv_H} {x0 : Int32} {x1 : Int32} {r : Int32} {Q : Option Value → iv_H → Prop} (e : fX12_apart N h x0 x1 = some r) (hq : Q (some (.int r)) h) : Cl d 192 [.int x0, .int x1] h Q := by
  obtain ⟨d, rfl⟩ : ∃ k, d = k + 1 := ⟨d - 1, by omega⟩
  have hd : 0 ≤ d := by omega
  have hT := hX12_apart
  unfold fX12_apart at e
  refine Cl.into (by decide) gX12_apart rfl ?_
  show Rn d 192 (some .int) 0 [some (.int x0), some (.int x1)] [] h Q
  refine Rn.n hT 2 (pc' := 2) (L' := [some (.int x0), some (.int x1)]) (st' := [.int x1, .int x0]) rfl ?_
  by_cases c_5941 : x1 ≤ x0
  · rw [if_pos c_5941] at e
    refine Rn.bt hT rfl rfl rfl (decide_eq_true c_5941) ?_
    refine Rn.n hT 3 (pc' := 14) (L' := [some (.int x0), some (.int x1)]) (st' := [.int (x0 - x1)]) rfl ?_
    exact Rn.weak (ll_n (ll_n ll_e)) (rX12_apart_b14 hd hq e)
  · rw [if_neg c_5941] at e
    refine Rn.bf hT rfl rfl rfl (decide_eq_false c_5941) ?_
    refine Rn.n hT 4 (pc' := 14) (L' := [some (.int x0), some (.int x1)]) (st' := [.int (x1 - x0)]) rfl ?_
    exact Rn.weak (ll_n (ll_n ll_e)) (rX12_apart_b14 hd hq e)
set_option maxRecDepth 10000 in
theorem hX12_isPalace : iv_Tb 193 tX12_isPalace := iv_tb_of (m := mX12_isPalace) rfl
set_option maxRecDepth 10000 in
theorem gX12_isPalace : PG.2 193 = some mX12_isPalace := iv_pi_of (t := tX12_isPalace) rfl (by decide)
def fX12_isPalace_b14 (N : Nat) (h : iv_H)  (s0 : Int32) : Option (Int32) := (if s0 = 0 ∨ s0 = 1 then some s0 else none)
set_option maxRecDepth 10000 in
set_option maxHeartbeats 4000000 in
theorem rX12_isPalace_b14 {d N : Nat} (hd : 0 ≤ d) {h : iv_H}  {s0 : Int32} {r : Int32} {Q : Option Value → iv_H → Prop} (hq : Q (some (.int r)) h) (e : fX12_isPalace_b14 N h  s0 = some r) : Rn d 193 (some .boolean) 14 [none] [.int s0] h Q := by
  have hT := hX12_isPalace
  unfold fX12_isPalace_b14 at e
  by_cases c_5947 : s0 = 0 ∨ s0 = 1
  · rw [if_pos c_5947] at e
    obtain rfl := Option.some.inj e
    exact Rn.ret hT rfl rfl (if_pos c_5947) hq
  · rw [if_neg c_5947] at e
    cases e
def fX12_isPalace (N : Nat) (h : iv_H) (q0 : Nat) : Option (Int32) := ((gR h 12 1 q0).bind fun v_5942 => ((aI h v_5942 (0 : Int32)).bind fun v_5944 => (if v_5944 ≤ 0 then (fX12_isPalace_b14 N h (0 : Int32)) else (fX12_isPalace_b14 N h (1 : Int32)))))
set_option maxRecDepth 10000 in
set_option maxHeartbeats 4000000 in
theorem rX12_isPalace {d N : Nat} (hd : 1 ≤ d) {h : iv_H} {q0 : Nat} {r : Int32} {Q : Option Value → iv_H → Prop} (e : fX12_isPalace N h q0 = some r) (hq : Q (some (.int r)) h) : Cl d 193 [.ref q0] h Q := by
  obtain ⟨d, rfl⟩ : ∃ k, d = k + 1 := ⟨d - 1, by omega⟩
  have hd : 0 ≤ d := by omega
  have hT := hX12_isPalace
  unfold fX12_isPalace at e
  refine Cl.into (by decide) gX12_isPalace rfl ?_
  show Rn d 193 (some .boolean) 0 [some (.ref q0)] [] h Q
  refine Rn.n hT 1 (pc' := 1) (L' := [some (.ref q0)]) (st' := [.ref q0]) rfl ?_
  obtain ⟨v_5942, e_5943, e⟩ := Option.bind_eq_some_iff.mp e
  refine Rn.hp hT rfl rfl (gR_hp e_5943) ?_
  refine Rn.n hT 1 (pc' := 5) (L' := [some (.ref q0)]) (st' := [.int (0 : Int32), .ref v_5942]) rfl ?_
  obtain ⟨v_5944, e_5945, e⟩ := Option.bind_eq_some_iff.mp e
  refine Rn.hp hT rfl rfl (aI_hp e_5945) ?_
  by_cases c_5946 : v_5944 ≤ 0
  · rw [if_pos c_5946] at e
    refine Rn.bt hT rfl rfl rfl (decide_eq_true c_5946) ?_
    refine Rn.n hT 1 (pc' := 14) (L' := [some (.ref q0)]) (st' := [.int (0 : Int32)]) rfl ?_
    exact Rn.weak (ll_n ll_e) (rX12_isPalace_b14 hd hq e)
  · rw [if_neg c_5946] at e
    refine Rn.bf hT rfl rfl rfl (decide_eq_false c_5946) ?_
    refine Rn.n hT 2 (pc' := 14) (L' := [some (.ref q0)]) (st' := [.int (1 : Int32)]) rfl ?_
    exact Rn.weak (ll_n ll_e) (rX12_isPalace_b14 hd hq e)
set_option maxRecDepth 10000 in
theorem hX12_isCell : iv_Tb 194 tX12_isCell := iv_tb_of (m := mX12_isCell) rfl
set_option maxRecDepth 10000 in
theorem gX12_isCell : PG.2 194 = some mX12_isCell := iv_pi_of (t := tX12_isCell) rfl (by decide)
def fX12_isCell_b41 (N : Nat) (h : iv_H)  (s0 : Int32) : Option (Int32) := (if s0 = 0 ∨ s0 = 1 then some s0 else none)
set_option maxRecDepth 10000 in
set_option maxHeartbeats 4000000 in
theorem rX12_isCell_b41 {d N : Nat} (hd : 1 ≤ d) {h : iv_H}  {s0 : Int32} {r : Int32} {Q : Option Value → iv_H → Prop} (hq : Q (some (.int r)) h) (e : fX12_isCell_b41 N h  s0 = some r) : Rn d 194 (some .boolean) 41 [none, none, none] [.int s0] h Q := by
  have hT := hX12_isCell
  unfold fX12_isCell_b41 at e
  by_cases c_5962 : s0 = 0 ∨ s0 = 1
  · rw [if_pos c_5962] at e
    obtain rfl := Option.some.inj e
    exact Rn.ret hT rfl rfl (if_pos c_5962) hq
  · rw [if_neg c_5962] at e
    cases e
def fX12_isCell_b40 (N : Nat) (h : iv_H)   : Option (Int32) := (fX12_isCell_b41 N h (0 : Int32))
set_option maxRecDepth 10000 in
set_option maxHeartbeats 4000000 in
theorem rX12_isCell_b40 {d N : Nat} (hd : 1 ≤ d) {h : iv_H}   {r : Int32} {Q : Option Value → iv_H → Prop} (hq : Q (some (.int r)) h) (e : fX12_isCell_b40 N h   = some r) : Rn d 194 (some .boolean) 40 [none, none, none] [] h Q := by
  have hT := hX12_isCell
  unfold fX12_isCell_b40 at e
  refine Rn.n hT 1 (pc' := 41) (L' := [none, none, none]) (st' := [.int (0 : Int32)]) rfl ?_
  exact Rn.weak (ll_n (ll_n (ll_n ll_e))) (rX12_isCell_b41 hd hq e)
def fX12_isCell (N : Nat) (h : iv_H) (q0 : Nat) (x1 : Int32) (x2 : Int32) : Option (Int32) := ((gR h 12 1 q0).bind fun v_5948 => ((aI h v_5948 (0 : Int32)).bind fun v_5950 => ((fX12_in N h ((x1).toInt64) (0 : Int64) (((v_5950 - (1 : Int32))).toInt64)).bind fun v_5953 => (if v_5953 = 0 then (fX12_isCell_b40 N h) else ((gR h 12 1 q0).bind fun v_5955 => ((aI h v_5955 (1 : Int32)).bind fun v_5957 => ((fX12_in N h ((x2).toInt64) (0 : Int64) (((v_5957 - (1 : Int32))).toInt64)).bind fun v_5960 => (if v_5960 = 0 then (fX12_isCell_b40 N h) else (fX12_isCell_b41 N h (1 : Int32))))))))))
set_option maxRecDepth 10000 in
set_option maxHeartbeats 4000000 in
theorem rX12_isCell {d N : Nat} (hd : 2 ≤ d) {h : iv_H} {q0 : Nat} {x1 : Int32} {x2 : Int32} {r : Int32} {Q : Option Value → iv_H → Prop} (e : fX12_isCell N h q0 x1 x2 = some r) (hq : Q (some (.int r)) h) : Cl d 194 [.ref q0, .int x1, .int x2] h Q := by
  obtain ⟨d, rfl⟩ : ∃ k, d = k + 1 := ⟨d - 1, by omega⟩
  have hd : 1 ≤ d := by omega
  have hT := hX12_isCell
  unfold fX12_isCell at e
  refine Cl.into (by decide) gX12_isCell rfl ?_
  show Rn d 194 (some .boolean) 0 [some (.ref q0), some (.int x1), some (.int x2)] [] h Q
  refine Rn.n hT 4 (pc' := 4) (L' := [some (.ref q0), some (.int x1), some (.int x2)]) (st' := [.ref q0, .long (0 : Int64), .long ((x1).toInt64)]) rfl ?_
  obtain ⟨v_5948, e_5949, e⟩ := Option.bind_eq_some_iff.mp e
  refine Rn.hp hT rfl rfl (gR_hp e_5949) ?_
  refine Rn.n hT 1 (pc' := 8) (L' := [some (.ref q0), some (.int x1), some (.int x2)]) (st' := [.int (0 : Int32), .ref v_5948, .long (0 : Int64), .long ((x1).toInt64)]) rfl ?_
  obtain ⟨v_5950, e_5951, e⟩ := Option.bind_eq_some_iff.mp e
  refine Rn.hp hT rfl rfl (aI_hp e_5951) ?_
  refine Rn.n hT 3 (pc' := 12) (L' := [some (.ref q0), some (.int x1), some (.int x2)]) (st' := [.long (((v_5950 - (1 : Int32))).toInt64), .long (0 : Int64), .long ((x1).toInt64)]) rfl ?_
  obtain ⟨v_5953, e_5952, e⟩ := Option.bind_eq_some_iff.mp e
  refine Rn.call hT rfl rfl rfl (Nat.le_of_ble_eq_true rfl) rfl (rX12_in (by omega) e_5952 ?_)
  show Rn d _ _ 15 [some (.ref q0), some (.int x1), some (.int x2)] [.int v_5953] h Q
  by_cases c_5954 : v_5953 = 0
  · rw [if_pos c_5954] at e
    refine Rn.bt hT rfl rfl rfl (decide_eq_true c_5954) ?_
    exact Rn.weak (ll_n (ll_n (ll_n ll_e))) (rX12_isCell_b40 hd hq e)
  · rw [if_neg c_5954] at e
    refine Rn.bf hT rfl rfl rfl (decide_eq_false c_5954) ?_
    refine Rn.n hT 4 (pc' := 22) (L' := [some (.ref q0), some (.int x1), some (.int x2)]) (st' := [.ref q0, .long (0 : Int64), .long ((x2).toInt64)]) rfl ?_
    obtain ⟨v_5955, e_5956, e⟩ := Option.bind_eq_some_iff.mp e
    refine Rn.hp hT rfl rfl (gR_hp e_5956) ?_
    refine Rn.n hT 1 (pc' := 26) (L' := [some (.ref q0), some (.int x1), some (.int x2)]) (st' := [.int (1 : Int32), .ref v_5955, .long (0 : Int64), .long ((x2).toInt64)]) rfl ?_
    obtain ⟨v_5957, e_5958, e⟩ := Option.bind_eq_some_iff.mp e
    refine Rn.hp hT rfl rfl (aI_hp e_5958) ?_
    refine Rn.n hT 3 (pc' := 30) (L' := [some (.ref q0), some (.int x1), some (.int x2)]) (st' := [.long (((v_5957 - (1 : Int32))).toInt64), .long (0 : Int64), .long ((x2).toInt64)]) rfl ?_
    obtain ⟨v_5960, e_5959, e⟩ := Option.bind_eq_some_iff.mp e
    refine Rn.call hT rfl rfl rfl (Nat.le_of_ble_eq_true rfl) rfl (rX12_in (by omega) e_5959 ?_)
    show Rn d _ _ 33 [some (.ref q0), some (.int x1), some (.int x2)] [.int v_5960] h Q
    by_cases c_5961 : v_5960 = 0
    · rw [if_pos c_5961] at e
      refine Rn.bt hT rfl rfl rfl (decide_eq_true c_5961) ?_
      exact Rn.weak (ll_n (ll_n (ll_n ll_e))) (rX12_isCell_b40 hd hq e)
    · rw [if_neg c_5961] at e
      refine Rn.bf hT rfl rfl rfl (decide_eq_false c_5961) ?_
      refine Rn.n hT 2 (pc' := 41) (L' := [some (.ref q0), some (.int x1), some (.int x2)]) (st' := [.int (1 : Int32)]) rfl ?_
      exact Rn.weak (ll_n (ll_n (ll_n ll_e))) (rX12_isCell_b41 hd hq e)
set_option maxRecDepth 10000 in
theorem hX12_isFloor : iv_Tb 195 tX12_isFloor := iv_tb_of (m := mX12_isFloor) rfl
set_option maxRecDepth 10000 in
theorem gX12_isFloor : PG.2 195 = some mX12_isFloor := iv_pi_of (t := tX12_isFloor) rfl (by decide)
def fX12_isFloor (N : Nat) (h : iv_H) (q0 : Nat) (x1 : Int32) : Option (Int32) := ((cko h q0 12).bind fun _ => (fX12_isCell N h q0 (x1 - x1 / (4 : Int32) * (4 : Int32)) (x1 / (4 : Int32))).bind fun v_5965 => (if v_5965 = 0 ∨ v_5965 = 1 then some v_5965 else none))
set_option maxRecDepth 10000 in
set_option maxHeartbeats 4000000 in
theorem rX12_isFloor {d N : Nat} (hd : 3 ≤ d) {h : iv_H} {q0 : Nat} {x1 : Int32} {r : Int32} {Q : Option Value → iv_H → Prop} (e : fX12_isFloor N h q0 x1 = some r) (hq : Q (some (.int r)) h) : Cl d 195 [.ref q0, .int x1] h Q := by
  obtain ⟨d, rfl⟩ : ∃ k, d = k + 1 := ⟨d - 1, by omega⟩
  have hd : 2 ≤ d := by omega
  have hT := hX12_isFloor
  unfold fX12_isFloor at e
  refine Cl.into (by decide) gX12_isFloor rfl ?_
  show Rn d 195 (some .boolean) 0 [some (.ref q0), some (.int x1)] [] h Q
  refine Rn.n hT 7 (pc' := 7) (L' := [some (.ref q0), some (.int x1)]) (st' := [.int (x1 / (4 : Int32)), .int (x1 - x1 / (4 : Int32) * (4 : Int32)), .ref q0]) rfl ?_
  obtain ⟨_, e_5964, e⟩ := Option.bind_eq_some_iff.mp e
  obtain ⟨v_5965, e_5963, e⟩ := Option.bind_eq_some_iff.mp e
  refine Rn.call hT rfl rfl rfl (Nat.le_of_ble_eq_true rfl) (rcv_v gX12_isCell (by omega) e_5964) (rX12_isCell (by omega) e_5963 ?_)
  show Rn d _ _ 10 [some (.ref q0), some (.int x1)] [.int v_5965] h Q
  by_cases c_5966 : v_5965 = 0 ∨ v_5965 = 1
  · rw [if_pos c_5966] at e
    obtain rfl := Option.some.inj e
    exact Rn.ret hT rfl rfl (if_pos c_5966) hq
  · rw [if_neg c_5966] at e
    cases e
set_option maxRecDepth 10000 in
theorem hX12_isRoom : iv_Tb 196 tX12_isRoom := iv_tb_of (m := mX12_isRoom) rfl
set_option maxRecDepth 10000 in
theorem gX12_isRoom : PG.2 196 = some mX12_isRoom := iv_pi_of (t := tX12_isRoom) rfl (by decide)
def fX12_isRoom (N : Nat) (h : iv_H) (q0 : Nat) (x1 : Int32) : Option (Int32) := ((gR h 12 1 q0).bind fun v_5967 => ((aI h v_5967 (2 : Int32)).bind fun v_5969 => ((fX12_in N h ((x1).toInt64) (0 : Int64) (((v_5969 - (1 : Int32))).toInt64)).bind fun v_5972 => (if v_5972 = 0 ∨ v_5972 = 1 then some v_5972 else none))))
set_option maxRecDepth 10000 in
set_option maxHeartbeats 4000000 in
theorem rX12_isRoom {d N : Nat} (hd : 2 ≤ d) {h : iv_H} {q0 : Nat} {x1 : Int32} {r : Int32} {Q : Option Value → iv_H → Prop} (e : fX12_isRoom N h q0 x1 = some r) (hq : Q (some (.int r)) h) : Cl d 196 [.ref q0, .int x1] h Q := by
  obtain ⟨d, rfl⟩ : ∃ k, d = k + 1 := ⟨d - 1, by omega⟩
  have hd : 1 ≤ d := by omega
  have hT := hX12_isRoom
  unfold fX12_isRoom at e
  refine Cl.into (by decide) gX12_isRoom rfl ?_
  show Rn d 196 (some .boolean) 0 [some (.ref q0), some (.int x1)] [] h Q
  refine Rn.n hT 4 (pc' := 4) (L' := [some (.ref q0), some (.int x1)]) (st' := [.ref q0, .long (0 : Int64), .long ((x1).toInt64)]) rfl ?_
  obtain ⟨v_5967, e_5968, e⟩ := Option.bind_eq_some_iff.mp e
  refine Rn.hp hT rfl rfl (gR_hp e_5968) ?_
  refine Rn.n hT 1 (pc' := 8) (L' := [some (.ref q0), some (.int x1)]) (st' := [.int (2 : Int32), .ref v_5967, .long (0 : Int64), .long ((x1).toInt64)]) rfl ?_
  obtain ⟨v_5969, e_5970, e⟩ := Option.bind_eq_some_iff.mp e
  refine Rn.hp hT rfl rfl (aI_hp e_5970) ?_
  refine Rn.n hT 3 (pc' := 12) (L' := [some (.ref q0), some (.int x1)]) (st' := [.long (((v_5969 - (1 : Int32))).toInt64), .long (0 : Int64), .long ((x1).toInt64)]) rfl ?_
  obtain ⟨v_5972, e_5971, e⟩ := Option.bind_eq_some_iff.mp e
  refine Rn.call hT rfl rfl rfl (Nat.le_of_ble_eq_true rfl) rfl (rX12_in (by omega) e_5971 ?_)
  show Rn d _ _ 15 [some (.ref q0), some (.int x1)] [.int v_5972] h Q
  by_cases c_5973 : v_5972 = 0 ∨ v_5972 = 1
  · rw [if_pos c_5973] at e
    obtain rfl := Option.some.inj e
    exact Rn.ret hT rfl rfl (if_pos c_5973) hq
  · rw [if_neg c_5973] at e
    cases e
set_option maxRecDepth 10000 in
theorem hX12_isPerson : iv_Tb 197 tX12_isPerson := iv_tb_of (m := mX12_isPerson) rfl
set_option maxRecDepth 10000 in
theorem gX12_isPerson : PG.2 197 = some mX12_isPerson := iv_pi_of (t := tX12_isPerson) rfl (by decide)
def fX12_isPerson (N : Nat) (h : iv_H) (q0 : Nat) (x1 : Int32) : Option (Int32) := ((gR h 12 1 q0).bind fun v_5974 => ((aI h v_5974 (3 : Int32)).bind fun v_5976 => ((fX12_in N h ((x1).toInt64) (0 : Int64) (((v_5976 - (1 : Int32))).toInt64)).bind fun v_5979 => (if v_5979 = 0 ∨ v_5979 = 1 then some v_5979 else none))))
set_option maxRecDepth 10000 in
set_option maxHeartbeats 4000000 in
theorem rX12_isPerson {d N : Nat} (hd : 2 ≤ d) {h : iv_H} {q0 : Nat} {x1 : Int32} {r : Int32} {Q : Option Value → iv_H → Prop} (e : fX12_isPerson N h q0 x1 = some r) (hq : Q (some (.int r)) h) : Cl d 197 [.ref q0, .int x1] h Q := by
  obtain ⟨d, rfl⟩ : ∃ k, d = k + 1 := ⟨d - 1, by omega⟩
  have hd : 1 ≤ d := by omega
  have hT := hX12_isPerson
  unfold fX12_isPerson at e
  refine Cl.into (by decide) gX12_isPerson rfl ?_
  show Rn d 197 (some .boolean) 0 [some (.ref q0), some (.int x1)] [] h Q
  refine Rn.n hT 4 (pc' := 4) (L' := [some (.ref q0), some (.int x1)]) (st' := [.ref q0, .long (0 : Int64), .long ((x1).toInt64)]) rfl ?_
  obtain ⟨v_5974, e_5975, e⟩ := Option.bind_eq_some_iff.mp e
  refine Rn.hp hT rfl rfl (gR_hp e_5975) ?_
  refine Rn.n hT 1 (pc' := 8) (L' := [some (.ref q0), some (.int x1)]) (st' := [.int (3 : Int32), .ref v_5974, .long (0 : Int64), .long ((x1).toInt64)]) rfl ?_
  obtain ⟨v_5976, e_5977, e⟩ := Option.bind_eq_some_iff.mp e
  refine Rn.hp hT rfl rfl (aI_hp e_5977) ?_
  refine Rn.n hT 3 (pc' := 12) (L' := [some (.ref q0), some (.int x1)]) (st' := [.long (((v_5976 - (1 : Int32))).toInt64), .long (0 : Int64), .long ((x1).toInt64)]) rfl ?_
  obtain ⟨v_5979, e_5978, e⟩ := Option.bind_eq_some_iff.mp e
  refine Rn.call hT rfl rfl rfl (Nat.le_of_ble_eq_true rfl) rfl (rX12_in (by omega) e_5978 ?_)
  show Rn d _ _ 15 [some (.ref q0), some (.int x1)] [.int v_5979] h Q
  by_cases c_5980 : v_5979 = 0 ∨ v_5979 = 1
  · rw [if_pos c_5980] at e
    obtain rfl := Option.some.inj e
    exact Rn.ret hT rfl rfl (if_pos c_5980) hq
  · rw [if_neg c_5980] at e
    cases e
set_option maxRecDepth 10000 in
theorem hX12_by : iv_Tb 198 tX12_by := iv_tb_of (m := mX12_by) rfl
set_option maxRecDepth 10000 in
theorem gX12_by : PG.2 198 = some mX12_by := iv_pi_of (t := tX12_by) rfl (by decide)
def fX12_by_b68 (N : Nat) (h : iv_H)  (s0 : Int32) : Option (Int32) := (some s0)
set_option maxRecDepth 10000 in
set_option maxHeartbeats 4000000 in
theorem rX12_by_b68 {d N : Nat} (hd : 2 ≤ d) {h : iv_H}  {s0 : Int32} {r : Int32} {Q : Option Value → iv_H → Prop} (hq : Q (some (.int r)) h) (e : fX12_by_b68 N h  s0 = some r) : Rn d 198 (some .int) 68 [none, none, none, none, none] [.int s0] h Q := by
  have hT := hX12_by
  unfold fX12_by_b68 at e
  obtain rfl := Option.some.inj e
  exact Rn.ret hT rfl rfl rfl hq
def fX12_by_b45 (N : Nat) (h : iv_H) (q0 : Nat) (x3 : Int32) (s0 : Int32) (s1 : Int32) : Option (Int32) := ((cko h q0 12).bind fun _ => (fX12_isCell N h q0 x3 (s1 + s0)).bind fun v_5987 => (if v_5987 = 0 then (fX12_by_b68 N h (-1 : Int32)) else (fX12_by_b68 N h (((4 : Int32) * (s1 + s0)) + x3))))
set_option maxRecDepth 10000 in
set_option maxHeartbeats 4000000 in
theorem rX12_by_b45 {d N : Nat} (hd : 2 ≤ d) {h : iv_H} {q0 : Nat} {x3 : Int32} {s0 : Int32} {s1 : Int32} {r : Int32} {Q : Option Value → iv_H → Prop} (hq : Q (some (.int r)) h) (e : fX12_by_b45 N h q0 x3 s0 s1 = some r) : Rn d 198 (some .int) 45 [some (.ref q0), none, none, some (.int x3), none] [.int s0, .int s1] h Q := by
  have hT := hX12_by
  unfold fX12_by_b45 at e
  refine Rn.n hT 5 (pc' := 52) (L' := [some (.ref q0), none, none, some (.int x3), some (.int (s1 + s0))]) (st' := [.int (s1 + s0), .int x3, .ref q0]) rfl ?_
  obtain ⟨_, e_5986, e⟩ := Option.bind_eq_some_iff.mp e
  obtain ⟨v_5987, e_5985, e⟩ := Option.bind_eq_some_iff.mp e
  refine Rn.call hT rfl rfl rfl (Nat.le_of_ble_eq_true rfl) (rcv_v gX12_isCell (by omega) e_5986) (rX12_isCell (by omega) e_5985 ?_)
  show Rn d _ _ 55 [some (.ref q0), none, none, some (.int x3), some (.int (s1 + s0))] [.int v_5987] h Q
  by_cases c_5988 : v_5987 = 0
  · rw [if_pos c_5988] at e
    refine Rn.bt hT rfl rfl rfl (decide_eq_true c_5988) ?_
    refine Rn.n hT 1 (pc' := 68) (L' := [some (.ref q0), none, none, some (.int x3), some (.int (s1 + s0))]) (st' := [.int (-1 : Int32)]) rfl ?_
    exact Rn.weak (ll_n (ll_n (ll_n (ll_n (ll_n ll_e))))) (rX12_by_b68 hd hq e)
  · rw [if_neg c_5988] at e
    refine Rn.bf hT rfl rfl rfl (decide_eq_false c_5988) ?_
    refine Rn.n hT 6 (pc' := 68) (L' := [some (.ref q0), none, none, some (.int x3), some (.int (s1 + s0))]) (st' := [.int (((4 : Int32) * (s1 + s0)) + x3)]) rfl ?_
    exact Rn.weak (ll_n (ll_n (ll_n (ll_n (ll_n ll_e))))) (rX12_by_b68 hd hq e)
def fX12_by_b22 (N : Nat) (h : iv_H) (q0 : Nat) (x1 : Int32) (x2 : Int32) (s0 : Int32) (s1 : Int32) : Option (Int32) := (if x2 = (2 : Int32) then (fX12_by_b45 N h q0 (s1 + s0) (1 : Int32) (x1 / (4 : Int32))) else (if x2 = 0 then (fX12_by_b45 N h q0 (s1 + s0) (-1 : Int32) (x1 / (4 : Int32))) else (fX12_by_b45 N h q0 (s1 + s0) (0 : Int32) (x1 / (4 : Int32)))))
set_option maxRecDepth 10000 in
set_option maxHeartbeats 4000000 in
theorem rX12_by_b22 {d N : Nat} (hd : 2 ≤ d) {h : iv_H} {q0 : Nat} {x1 : Int32} {x2 : Int32} {s0 : Int32} {s1 : Int32} {r : Int32} {Q : Option Value → iv_H → Prop} (hq : Q (some (.int r)) h) (e : fX12_by_b22 N h q0 x1 x2 s0 s1 = some r) : Rn d 198 (some .int) 22 [some (.ref q0), some (.int x1), some (.int x2), none, none] [.int s0, .int s1] h Q := by
  have hT := hX12_by
  unfold fX12_by_b22 at e
  refine Rn.n hT 7 (pc' := 29) (L' := [some (.ref q0), some (.int x1), some (.int x2), some (.int (s1 + s0)), none]) (st' := [.int (2 : Int32), .int x2, .int (x1 / (4 : Int32))]) rfl ?_
  by_cases c_5983 : x2 = (2 : Int32)
  · rw [if_pos c_5983] at e
    refine Rn.bf hT rfl rfl rfl (decide_eq_false (fun z => z c_5983)) ?_
    refine Rn.n hT 2 (pc' := 45) (L' := [some (.ref q0), some (.int x1), some (.int x2), some (.int (s1 + s0)), none]) (st' := [.int (1 : Int32), .int (x1 / (4 : Int32))]) rfl ?_
    exact Rn.weak (ll_s (ll_n (ll_n (ll_s (ll_n ll_e))))) (rX12_by_b45 hd hq e)
  · rw [if_neg c_5983] at e
    refine Rn.bt hT rfl rfl rfl (decide_eq_true c_5983) ?_
    refine Rn.n hT 1 (pc' := 37) (L' := [some (.ref q0), some (.int x1), some (.int x2), some (.int (s1 + s0)), none]) (st' := [.int x2, .int (x1 / (4 : Int32))]) rfl ?_
    by_cases c_5984 : x2 = 0
    · rw [if_pos c_5984] at e
      refine Rn.bf hT rfl rfl rfl (decide_eq_false (fun z => z c_5984)) ?_
      refine Rn.n hT 2 (pc' := 45) (L' := [some (.ref q0), some (.int x1), some (.int x2), some (.int (s1 + s0)), none]) (st' := [.int (-1 : Int32), .int (x1 / (4 : Int32))]) rfl ?_
      exact Rn.weak (ll_s (ll_n (ll_n (ll_s (ll_n ll_e))))) (rX12_by_b45 hd hq e)
    · rw [if_neg c_5984] at e
      refine Rn.bt hT rfl rfl rfl (decide_eq_true c_5984) ?_
      refine Rn.n hT 1 (pc' := 45) (L' := [some (.ref q0), some (.int x1), some (.int x2), some (.int (s1 + s0)), none]) (st' := [.int (0 : Int32), .int (x1 / (4 : Int32))]) rfl ?_
      exact Rn.weak (ll_s (ll_n (ll_n (ll_s (ll_n ll_e))))) (rX12_by_b45 hd hq e)
def fX12_by (N : Nat) (h : iv_H) (q0 : Nat) (x1 : Int32) (x2 : Int32) : Option (Int32) := (if x2 = (1 : Int32) then (fX12_by_b22 N h q0 x1 x2 (1 : Int32) (x1 - x1 / (4 : Int32) * (4 : Int32))) else (if x2 = (3 : Int32) then (fX12_by_b22 N h q0 x1 x2 (-1 : Int32) (x1 - x1 / (4 : Int32) * (4 : Int32))) else (fX12_by_b22 N h q0 x1 x2 (0 : Int32) (x1 - x1 / (4 : Int32) * (4 : Int32)))))
set_option maxRecDepth 10000 in
set_option maxHeartbeats 4000000 in
theorem rX12_by {d N : Nat} (hd : 3 ≤ d) {h : iv_H} {q0 : Nat} {x1 : Int32} {x2 : Int32} {r : Int32} {Q : Option Value → iv_H → Prop} (e : fX12_by N h q0 x1 x2 = some r) (hq : Q (some (.int r)) h) : Cl d 198 [.ref q0, .int x1, .int x2] h Q := by
  obtain ⟨d, rfl⟩ : ∃ k, d = k + 1 := ⟨d - 1, by omega⟩
  have hd : 2 ≤ d := by omega
  have hT := hX12_by
  unfold fX12_by at e
  refine Cl.into (by decide) gX12_by rfl ?_
  show Rn d 198 (some .int) 0 [some (.ref q0), some (.int x1), some (.int x2), none, none] [] h Q
  refine Rn.n hT 5 (pc' := 5) (L' := [some (.ref q0), some (.int x1), some (.int x2), none, none]) (st' := [.int (1 : Int32), .int x2, .int (x1 - x1 / (4 : Int32) * (4 : Int32))]) rfl ?_
  by_cases c_5981 : x2 = (1 : Int32)
  · rw [if_pos c_5981] at e
    refine Rn.bf hT rfl rfl rfl (decide_eq_false (fun z => z c_5981)) ?_
    refine Rn.n hT 2 (pc' := 22) (L' := [some (.ref q0), some (.int x1), some (.int x2), none, none]) (st' := [.int (1 : Int32), .int (x1 - x1 / (4 : Int32) * (4 : Int32))]) rfl ?_
    exact Rn.weak (ll_s (ll_s (ll_s (ll_n (ll_n ll_e))))) (rX12_by_b22 hd hq e)
  · rw [if_neg c_5981] at e
    refine Rn.bt hT rfl rfl rfl (decide_eq_true c_5981) ?_
    refine Rn.n hT 2 (pc' := 14) (L' := [some (.ref q0), some (.int x1), some (.int x2), none, none]) (st' := [.int (3 : Int32), .int x2, .int (x1 - x1 / (4 : Int32) * (4 : Int32))]) rfl ?_
    by_cases c_5982 : x2 = (3 : Int32)
    · rw [if_pos c_5982] at e
      refine Rn.bf hT rfl rfl rfl (decide_eq_false (fun z => z c_5982)) ?_
      refine Rn.n hT 2 (pc' := 22) (L' := [some (.ref q0), some (.int x1), some (.int x2), none, none]) (st' := [.int (-1 : Int32), .int (x1 - x1 / (4 : Int32) * (4 : Int32))]) rfl ?_
      exact Rn.weak (ll_s (ll_s (ll_s (ll_n (ll_n ll_e))))) (rX12_by_b22 hd hq e)
    · rw [if_neg c_5982] at e
      refine Rn.bt hT rfl rfl rfl (decide_eq_true c_5982) ?_
      refine Rn.n hT 1 (pc' := 22) (L' := [some (.ref q0), some (.int x1), some (.int x2), none, none]) (st' := [.int (0 : Int32), .int (x1 - x1 / (4 : Int32) * (4 : Int32))]) rfl ?_
      exact Rn.weak (ll_s (ll_s (ll_s (ll_n (ll_n ll_e))))) (rX12_by_b22 hd hq e)
set_option maxRecDepth 10000 in
theorem hX12_spotOf : iv_Tb 199 tX12_spotOf := iv_tb_of (m := mX12_spotOf) rfl
set_option maxRecDepth 10000 in
theorem gX12_spotOf : PG.2 199 = some mX12_spotOf := iv_pi_of (t := tX12_spotOf) rfl (by decide)
def fX12_spotOf (N : Nat) (h : iv_H) (q0 : Nat) (x1 : Int32) (x2 : Int32) : Option (Int32) := ((gR h 12 4 q0).bind fun v_5989 => ((aI h v_5989 x1).bind fun v_5991 => (some (((4 : Int32) * x1) + ((x2 - v_5991) &&& (3 : Int32))))))
set_option maxRecDepth 10000 in
set_option maxHeartbeats 4000000 in
theorem rX12_spotOf {d N : Nat} (hd : 1 ≤ d) {h : iv_H} {q0 : Nat} {x1 : Int32} {x2 : Int32} {r : Int32} {Q : Option Value → iv_H → Prop} (e : fX12_spotOf N h q0 x1 x2 = some r) (hq : Q (some (.int r)) h) : Cl d 199 [.ref q0, .int x1, .int x2] h Q := by
  obtain ⟨d, rfl⟩ : ∃ k, d = k + 1 := ⟨d - 1, by omega⟩
  have hd : 0 ≤ d := by omega
  have hT := hX12_spotOf
  unfold fX12_spotOf at e
  refine Cl.into (by decide) gX12_spotOf rfl ?_
  show Rn d 199 (some .int) 0 [some (.ref q0), some (.int x1), some (.int x2)] [] h Q
  refine Rn.n hT 5 (pc' := 5) (L' := [some (.ref q0), some (.int x1), some (.int x2)]) (st' := [.ref q0, .int x2, .int ((4 : Int32) * x1)]) rfl ?_
  obtain ⟨v_5989, e_5990, e⟩ := Option.bind_eq_some_iff.mp e
  refine Rn.hp hT rfl rfl (gR_hp e_5990) ?_
  refine Rn.n hT 1 (pc' := 9) (L' := [some (.ref q0), some (.int x1), some (.int x2)]) (st' := [.int x1, .ref v_5989, .int x2, .int ((4 : Int32) * x1)]) rfl ?_
  obtain ⟨v_5991, e_5992, e⟩ := Option.bind_eq_some_iff.mp e
  refine Rn.hp hT rfl rfl (aI_hp e_5992) ?_
  refine Rn.n hT 4 (pc' := 14) (L' := [some (.ref q0), some (.int x1), some (.int x2)]) (st' := [.int (((4 : Int32) * x1) + ((x2 - v_5991) &&& (3 : Int32)))]) rfl ?_
  obtain rfl := Option.some.inj e
  exact Rn.ret hT rfl rfl rfl hq
set_option maxRecDepth 10000 in
theorem hX12_sideOf : iv_Tb 200 tX12_sideOf := iv_tb_of (m := mX12_sideOf) rfl
set_option maxRecDepth 10000 in
theorem gX12_sideOf : PG.2 200 = some mX12_sideOf := iv_pi_of (t := tX12_sideOf) rfl (by decide)
def fX12_sideOf (N : Nat) (h : iv_H) (q0 : Nat) (x1 : Int32) (x2 : Int32) : Option (Int32) := ((gR h 12 2 q0).bind fun v_5993 => ((cko h q0 12).bind fun _ => (fX12_spotOf N h q0 x1 x2).bind fun v_5997 => ((aI h v_5993 v_5997).bind fun v_5998 => (some v_5998))))
set_option maxRecDepth 10000 in
set_option maxHeartbeats 4000000 in
theorem rX12_sideOf {d N : Nat} (hd : 2 ≤ d) {h : iv_H} {q0 : Nat} {x1 : Int32} {x2 : Int32} {r : Int32} {Q : Option Value → iv_H → Prop} (e : fX12_sideOf N h q0 x1 x2 = some r) (hq : Q (some (.int r)) h) : Cl d 200 [.ref q0, .int x1, .int x2] h Q := by
  obtain ⟨d, rfl⟩ : ∃ k, d = k + 1 := ⟨d - 1, by omega⟩
  have hd : 1 ≤ d := by omega
  have hT := hX12_sideOf
  unfold fX12_sideOf at e
  refine Cl.into (by decide) gX12_sideOf rfl ?_
  show Rn d 200 (some .int) 0 [some (.ref q0), some (.int x1), some (.int x2)] [] h Q
  refine Rn.n hT 1 (pc' := 1) (L' := [some (.ref q0), some (.int x1), some (.int x2)]) (st' := [.ref q0]) rfl ?_
  obtain ⟨v_5993, e_5994, e⟩ := Option.bind_eq_some_iff.mp e
  refine Rn.hp hT rfl rfl (gR_hp e_5994) ?_
  refine Rn.n hT 3 (pc' := 7) (L' := [some (.ref q0), some (.int x1), some (.int x2)]) (st' := [.int x2, .int x1, .ref q0, .ref v_5993]) rfl ?_
  obtain ⟨_, e_5996, e⟩ := Option.bind_eq_some_iff.mp e
  obtain ⟨v_5997, e_5995, e⟩ := Option.bind_eq_some_iff.mp e
  refine Rn.call hT rfl rfl rfl (Nat.le_of_ble_eq_true rfl) (rcv_v gX12_spotOf (by omega) e_5996) (rX12_spotOf (by omega) e_5995 ?_)
  show Rn d _ _ 10 [some (.ref q0), some (.int x1), some (.int x2)] [.int v_5997, .ref v_5993] h Q
  obtain ⟨v_5998, e_5999, e⟩ := Option.bind_eq_some_iff.mp e
  refine Rn.hp hT rfl rfl (aI_hp e_5999) ?_
  obtain rfl := Option.some.inj e
  exact Rn.ret hT rfl rfl rfl hq
set_option maxRecDepth 10000 in
theorem hX12_sortOf : iv_Tb 201 tX12_sortOf := iv_tb_of (m := mX12_sortOf) rfl
set_option maxRecDepth 10000 in
theorem gX12_sortOf : PG.2 201 = some mX12_sortOf := iv_pi_of (t := tX12_sortOf) rfl (by decide)
def fX12_sortOf_b10 (N : Nat) (h : iv_H)  (s0 : Int32) : Option (Int32) := (some s0)
set_option maxRecDepth 10000 in
set_option maxHeartbeats 4000000 in
theorem rX12_sortOf_b10 {d N : Nat} (hd : 0 ≤ d) {h : iv_H}  {s0 : Int32} {r : Int32} {Q : Option Value → iv_H → Prop} (hq : Q (some (.int r)) h) (e : fX12_sortOf_b10 N h  s0 = some r) : Rn d 201 (some .int) 10 [none] [.int s0] h Q := by
  have hT := hX12_sortOf
  unfold fX12_sortOf_b10 at e
  obtain rfl := Option.some.inj e
  exact Rn.ret hT rfl rfl rfl hq
def fX12_sortOf (N : Nat) (h : iv_H) (x0 : Int32) : Option (Int32) := (if x0 < (3 : Int32) then (fX12_sortOf_b10 N h x0) else (fX12_sortOf_b10 N h (1 : Int32)))
set_option maxRecDepth 10000 in
set_option maxHeartbeats 4000000 in
theorem rX12_sortOf {d N : Nat} (hd : 1 ≤ d) {h : iv_H} {x0 : Int32} {r : Int32} {Q : Option Value → iv_H → Prop} (e : fX12_sortOf N h x0 = some r) (hq : Q (some (.int r)) h) : Cl d 201 [.int x0] h Q := by
  obtain ⟨d, rfl⟩ : ∃ k, d = k + 1 := ⟨d - 1, by omega⟩
  have hd : 0 ≤ d := by omega
  have hT := hX12_sortOf
  unfold fX12_sortOf at e
  refine Cl.into (by decide) gX12_sortOf rfl ?_
  show Rn d 201 (some .int) 0 [some (.int x0)] [] h Q
  refine Rn.n hT 2 (pc' := 2) (L' := [some (.int x0)]) (st' := [.int (3 : Int32), .int x0]) rfl ?_
  by_cases c_6000 : x0 < (3 : Int32)
  · rw [if_pos c_6000] at e
    refine Rn.bt hT rfl rfl rfl (decide_eq_true c_6000) ?_
    refine Rn.n hT 1 (pc' := 10) (L' := [some (.int x0)]) (st' := [.int x0]) rfl ?_
    exact Rn.weak (ll_n ll_e) (rX12_sortOf_b10 hd hq e)
  · rw [if_neg c_6000] at e
    refine Rn.bf hT rfl rfl rfl (decide_eq_false c_6000) ?_
    refine Rn.n hT 2 (pc' := 10) (L' := [some (.int x0)]) (st' := [.int (1 : Int32)]) rfl ?_
    exact Rn.weak (ll_n ll_e) (rX12_sortOf_b10 hd hq e)
set_option maxRecDepth 10000 in
theorem hX12_sortAt : iv_Tb 202 tX12_sortAt := iv_tb_of (m := mX12_sortAt) rfl
set_option maxRecDepth 10000 in
theorem gX12_sortAt : PG.2 202 = some mX12_sortAt := iv_pi_of (t := tX12_sortAt) rfl (by decide)
def fX12_sortAt (N : Nat) (h : iv_H) (q0 : Nat) (x1 : Int32) (x2 : Int32) : Option (Int32) := ((cko h q0 12).bind fun _ => (fX12_sideOf N h q0 x1 x2).bind fun v_6003 => ((fX12_sortOf N h v_6003).bind fun v_6005 => (some v_6005)))
set_option maxRecDepth 10000 in
set_option maxHeartbeats 4000000 in
theorem rX12_sortAt {d N : Nat} (hd : 3 ≤ d) {h : iv_H} {q0 : Nat} {x1 : Int32} {x2 : Int32} {r : Int32} {Q : Option Value → iv_H → Prop} (e : fX12_sortAt N h q0 x1 x2 = some r) (hq : Q (some (.int r)) h) : Cl d 202 [.ref q0, .int x1, .int x2] h Q := by
  obtain ⟨d, rfl⟩ : ∃ k, d = k + 1 := ⟨d - 1, by omega⟩
  have hd : 2 ≤ d := by omega
  have hT := hX12_sortAt
  unfold fX12_sortAt at e
  refine Cl.into (by decide) gX12_sortAt rfl ?_
  show Rn d 202 (some .int) 0 [some (.ref q0), some (.int x1), some (.int x2)] [] h Q
  refine Rn.n hT 3 (pc' := 3) (L' := [some (.ref q0), some (.int x1), some (.int x2)]) (st' := [.int x2, .int x1, .ref q0]) rfl ?_
  obtain ⟨_, e_6002, e⟩ := Option.bind_eq_some_iff.mp e
  obtain ⟨v_6003, e_6001, e⟩ := Option.bind_eq_some_iff.mp e
  refine Rn.call hT rfl rfl rfl (Nat.le_of_ble_eq_true rfl) (rcv_v gX12_sideOf (by omega) e_6002) (rX12_sideOf (by omega) e_6001 ?_)
  show Rn d _ _ 6 [some (.ref q0), some (.int x1), some (.int x2)] [.int v_6003] h Q
  obtain ⟨v_6005, e_6004, e⟩ := Option.bind_eq_some_iff.mp e
  refine Rn.call hT rfl rfl rfl (Nat.le_of_ble_eq_true rfl) rfl (rX12_sortOf (by omega) e_6004 ?_)
  show Rn d _ _ 9 [some (.ref q0), some (.int x1), some (.int x2)] [.int v_6005] h Q
  obtain rfl := Option.some.inj e
  exact Rn.ret hT rfl rfl rfl hq
set_option maxRecDepth 10000 in
theorem hX12_faced : iv_Tb 203 tX12_faced := iv_tb_of (m := mX12_faced) rfl
set_option maxRecDepth 10000 in
theorem gX12_faced : PG.2 203 = some mX12_faced := iv_pi_of (t := tX12_faced) rfl (by decide)
def fX12_faced_b27 (N : Nat) (h : iv_H)  (s0 : Int32) : Option (Int32) := (some s0)
set_option maxRecDepth 10000 in
set_option maxHeartbeats 4000000 in
theorem rX12_faced_b27 {d N : Nat} (hd : 3 ≤ d) {h : iv_H}  {s0 : Int32} {r : Int32} {Q : Option Value → iv_H → Prop} (hq : Q (some (.int r)) h) (e : fX12_faced_b27 N h  s0 = some r) : Rn d 203 (some .int) 27 [none, none, none, none] [.int s0] h Q := by
  have hT := hX12_faced
  unfold fX12_faced_b27 at e
  obtain rfl := Option.some.inj e
  exact Rn.ret hT rfl rfl rfl hq
def fX12_faced (N : Nat) (h : iv_H) (q0 : Nat) (x1 : Int32) (x2 : Int32) : Option (Int32) := ((gR h 12 3 q0).bind fun v_6006 => ((aI h v_6006 x1).bind fun v_6008 => ((cko h q0 12).bind fun _ => (fX12_by N h q0 v_6008 x2).bind fun v_6012 => (if v_6012 = (-1 : Int32) then (fX12_faced_b27 N h (-1 : Int32)) else ((gR h 12 8 q0).bind fun v_6014 => ((aI h v_6014 v_6012).bind fun v_6016 => (fX12_faced_b27 N h v_6016)))))))
set_option maxRecDepth 10000 in
set_option maxHeartbeats 4000000 in
theorem rX12_faced {d N : Nat} (hd : 4 ≤ d) {h : iv_H} {q0 : Nat} {x1 : Int32} {x2 : Int32} {r : Int32} {Q : Option Value → iv_H → Prop} (e : fX12_faced N h q0 x1 x2 = some r) (hq : Q (some (.int r)) h) : Cl d 203 [.ref q0, .int x1, .int x2] h Q := by
  obtain ⟨d, rfl⟩ : ∃ k, d = k + 1 := ⟨d - 1, by omega⟩
  have hd : 3 ≤ d := by omega
  have hT := hX12_faced
  unfold fX12_faced at e
  refine Cl.into (by decide) gX12_faced rfl ?_
  show Rn d 203 (some .int) 0 [some (.ref q0), some (.int x1), some (.int x2), none] [] h Q
  refine Rn.n hT 2 (pc' := 2) (L' := [some (.ref q0), some (.int x1), some (.int x2), none]) (st' := [.ref q0, .ref q0]) rfl ?_
  obtain ⟨v_6006, e_6007, e⟩ := Option.bind_eq_some_iff.mp e
  refine Rn.hp hT rfl rfl (gR_hp e_6007) ?_
  refine Rn.n hT 1 (pc' := 6) (L' := [some (.ref q0), some (.int x1), some (.int x2), none]) (st' := [.int x1, .ref v_6006, .ref q0]) rfl ?_
  obtain ⟨v_6008, e_6009, e⟩ := Option.bind_eq_some_iff.mp e
  refine Rn.hp hT rfl rfl (aI_hp e_6009) ?_
  refine Rn.n hT 1 (pc' := 8) (L' := [some (.ref q0), some (.int x1), some (.int x2), none]) (st' := [.int x2, .int v_6008, .ref q0]) rfl ?_
  obtain ⟨_, e_6011, e⟩ := Option.bind_eq_some_iff.mp e
  obtain ⟨v_6012, e_6010, e⟩ := Option.bind_eq_some_iff.mp e
  refine Rn.call hT rfl rfl rfl (Nat.le_of_ble_eq_true rfl) (rcv_v gX12_by (by omega) e_6011) (rX12_by (by omega) e_6010 ?_)
  show Rn d _ _ 11 [some (.ref q0), some (.int x1), some (.int x2), none] [.int v_6012] h Q
  refine Rn.n hT 3 (pc' := 14) (L' := [some (.ref q0), some (.int x1), some (.int x2), some (.int v_6012)]) (st' := [.int (-1 : Int32), .int v_6012]) rfl ?_
  by_cases c_6013 : v_6012 = (-1 : Int32)
  · rw [if_pos c_6013] at e
    refine Rn.bf hT rfl rfl rfl (decide_eq_false (fun z => z c_6013)) ?_
    refine Rn.n hT 2 (pc' := 27) (L' := [some (.ref q0), some (.int x1), some (.int x2), some (.int v_6012)]) (st' := [.int (-1 : Int32)]) rfl ?_
    exact Rn.weak (ll_n (ll_n (ll_n (ll_n ll_e)))) (rX12_faced_b27 hd hq e)
  · rw [if_neg c_6013] at e
    refine Rn.bt hT rfl rfl rfl (decide_eq_true c_6013) ?_
    refine Rn.n hT 1 (pc' := 22) (L' := [some (.ref q0), some (.int x1), some (.int x2), some (.int v_6012)]) (st' := [.ref q0]) rfl ?_
    obtain ⟨v_6014, e_6015, e⟩ := Option.bind_eq_some_iff.mp e
    refine Rn.hp hT rfl rfl (gR_hp e_6015) ?_
    refine Rn.n hT 1 (pc' := 26) (L' := [some (.ref q0), some (.int x1), some (.int x2), some (.int v_6012)]) (st' := [.int v_6012, .ref v_6014]) rfl ?_
    obtain ⟨v_6016, e_6017, e⟩ := Option.bind_eq_some_iff.mp e
    refine Rn.hp hT rfl rfl (aI_hp e_6017) ?_
    exact Rn.weak (ll_n (ll_n (ll_n (ll_n ll_e)))) (rX12_faced_b27 hd hq e)
set_option maxRecDepth 10000 in
theorem hX12_isDoorToDoor : iv_Tb 204 tX12_isDoorToDoor := iv_tb_of (m := mX12_isDoorToDoor) rfl
set_option maxRecDepth 10000 in
theorem gX12_isDoorToDoor : PG.2 204 = some mX12_isDoorToDoor := iv_pi_of (t := tX12_isDoorToDoor) rfl (by decide)
def fX12_isDoorToDoor_b41 (N : Nat) (h : iv_H)  (s0 : Int32) : Option (Int32) := (if s0 = 0 ∨ s0 = 1 then some s0 else none)
set_option maxRecDepth 10000 in
set_option maxHeartbeats 4000000 in
theorem rX12_isDoorToDoor_b41 {d N : Nat} (hd : 4 ≤ d) {h : iv_H}  {s0 : Int32} {r : Int32} {Q : Option Value → iv_H → Prop} (hq : Q (some (.int r)) h) (e : fX12_isDoorToDoor_b41 N h  s0 = some r) : Rn d 204 (some .boolean) 41 [none, none, none, none] [.int s0] h Q := by
  have hT := hX12_isDoorToDoor
  unfold fX12_isDoorToDoor_b41 at e
  by_cases c_6030 : s0 = 0 ∨ s0 = 1
  · rw [if_pos c_6030] at e
    obtain rfl := Option.some.inj e
    exact Rn.ret hT rfl rfl (if_pos c_6030) hq
  · rw [if_neg c_6030] at e
    cases e
def fX12_isDoorToDoor_b40 (N : Nat) (h : iv_H)   : Option (Int32) := (fX12_isDoorToDoor_b41 N h (0 : Int32))
set_option maxRecDepth 10000 in
set_option maxHeartbeats 4000000 in
theorem rX12_isDoorToDoor_b40 {d N : Nat} (hd : 4 ≤ d) {h : iv_H}   {r : Int32} {Q : Option Value → iv_H → Prop} (hq : Q (some (.int r)) h) (e : fX12_isDoorToDoor_b40 N h   = some r) : Rn d 204 (some .boolean) 40 [none, none, none, none] [] h Q := by
  have hT := hX12_isDoorToDoor
  unfold fX12_isDoorToDoor_b40 at e
  refine Rn.n hT 1 (pc' := 41) (L' := [none, none, none, none]) (st' := [.int (0 : Int32)]) rfl ?_
  exact Rn.weak (ll_n (ll_n (ll_n (ll_n ll_e)))) (rX12_isDoorToDoor_b41 hd hq e)
def fX12_isDoorToDoor (N : Nat) (h : iv_H) (q0 : Nat) (x1 : Int32) (x2 : Int32) : Option (Int32) := ((cko h q0 12).bind fun _ => (fX12_faced N h q0 x1 x2).bind fun v_6020 => (if v_6020 = (-1 : Int32) then (fX12_isDoorToDoor_b40 N h) else ((cko h q0 12).bind fun _ => (fX12_sortAt N h q0 x1 x2).bind fun v_6024 => (if v_6024 = (1 : Int32) then ((cko h q0 12).bind fun _ => (fX12_sortAt N h q0 v_6020 ((x2 + (2 : Int32)) &&& (3 : Int32))).bind fun v_6028 => (if v_6028 = (1 : Int32) then (fX12_isDoorToDoor_b41 N h (1 : Int32)) else (fX12_isDoorToDoor_b40 N h))) else (fX12_isDoorToDoor_b40 N h)))))
set_option maxRecDepth 10000 in
set_option maxHeartbeats 4000000 in
theorem rX12_isDoorToDoor {d N : Nat} (hd : 5 ≤ d) {h : iv_H} {q0 : Nat} {x1 : Int32} {x2 : Int32} {r : Int32} {Q : Option Value → iv_H → Prop} (e : fX12_isDoorToDoor N h q0 x1 x2 = some r) (hq : Q (some (.int r)) h) : Cl d 204 [.ref q0, .int x1, .int x2] h Q := by
  obtain ⟨d, rfl⟩ : ∃ k, d = k + 1 := ⟨d - 1, by omega⟩
  have hd : 4 ≤ d := by omega
  have hT := hX12_isDoorToDoor
  unfold fX12_isDoorToDoor at e
  refine Cl.into (by decide) gX12_isDoorToDoor rfl ?_
  show Rn d 204 (some .boolean) 0 [some (.ref q0), some (.int x1), some (.int x2), none] [] h Q
  refine Rn.n hT 3 (pc' := 3) (L' := [some (.ref q0), some (.int x1), some (.int x2), none]) (st' := [.int x2, .int x1, .ref q0]) rfl ?_
  obtain ⟨_, e_6019, e⟩ := Option.bind_eq_some_iff.mp e
  obtain ⟨v_6020, e_6018, e⟩ := Option.bind_eq_some_iff.mp e
  refine Rn.call hT rfl rfl rfl (Nat.le_of_ble_eq_true rfl) (rcv_v gX12_faced (by omega) e_6019) (rX12_faced (by omega) e_6018 ?_)
  show Rn d _ _ 6 [some (.ref q0), some (.int x1), some (.int x2), none] [.int v_6020] h Q
  refine Rn.n hT 3 (pc' := 9) (L' := [some (.ref q0), some (.int x1), some (.int x2), some (.int v_6020)]) (st' := [.int (-1 : Int32), .int v_6020]) rfl ?_
  by_cases c_6021 : v_6020 = (-1 : Int32)
  · rw [if_pos c_6021] at e
    refine Rn.bt hT rfl rfl rfl (decide_eq_true c_6021) ?_
    exact Rn.weak (ll_n (ll_n (ll_n (ll_n ll_e)))) (rX12_isDoorToDoor_b40 hd hq e)
  · rw [if_neg c_6021] at e
    refine Rn.bf hT rfl rfl rfl (decide_eq_false c_6021) ?_
    refine Rn.n hT 3 (pc' := 15) (L' := [some (.ref q0), some (.int x1), some (.int x2), some (.int v_6020)]) (st' := [.int x2, .int x1, .ref q0]) rfl ?_
    obtain ⟨_, e_6023, e⟩ := Option.bind_eq_some_iff.mp e
    obtain ⟨v_6024, e_6022, e⟩ := Option.bind_eq_some_iff.mp e
    refine Rn.call hT rfl rfl rfl (Nat.le_of_ble_eq_true rfl) (rcv_v gX12_sortAt (by omega) e_6023) (rX12_sortAt (by omega) e_6022 ?_)
    show Rn d _ _ 18 [some (.ref q0), some (.int x1), some (.int x2), some (.int v_6020)] [.int v_6024] h Q
    refine Rn.n hT 1 (pc' := 19) (L' := [some (.ref q0), some (.int x1), some (.int x2), some (.int v_6020)]) (st' := [.int (1 : Int32), .int v_6024]) rfl ?_
    by_cases c_6025 : v_6024 = (1 : Int32)
    · rw [if_pos c_6025] at e
      refine Rn.bf hT rfl rfl rfl (decide_eq_false (fun z => z c_6025)) ?_
      refine Rn.n hT 7 (pc' := 29) (L' := [some (.ref q0), some (.int x1), some (.int x2), some (.int v_6020)]) (st' := [.int ((x2 + (2 : Int32)) &&& (3 : Int32)), .int v_6020, .ref q0]) rfl ?_
      obtain ⟨_, e_6027, e⟩ := Option.bind_eq_some_iff.mp e
      obtain ⟨v_6028, e_6026, e⟩ := Option.bind_eq_some_iff.mp e
      refine Rn.call hT rfl rfl rfl (Nat.le_of_ble_eq_true rfl) (rcv_v gX12_sortAt (by omega) e_6027) (rX12_sortAt (by omega) e_6026 ?_)
      show Rn d _ _ 32 [some (.ref q0), some (.int x1), some (.int x2), some (.int v_6020)] [.int v_6028] h Q
      refine Rn.n hT 1 (pc' := 33) (L' := [some (.ref q0), some (.int x1), some (.int x2), some (.int v_6020)]) (st' := [.int (1 : Int32), .int v_6028]) rfl ?_
      by_cases c_6029 : v_6028 = (1 : Int32)
      · rw [if_pos c_6029] at e
        refine Rn.bf hT rfl rfl rfl (decide_eq_false (fun z => z c_6029)) ?_
        refine Rn.n hT 2 (pc' := 41) (L' := [some (.ref q0), some (.int x1), some (.int x2), some (.int v_6020)]) (st' := [.int (1 : Int32)]) rfl ?_
        exact Rn.weak (ll_n (ll_n (ll_n (ll_n ll_e)))) (rX12_isDoorToDoor_b41 hd hq e)
      · rw [if_neg c_6029] at e
        refine Rn.bt hT rfl rfl rfl (decide_eq_true c_6029) ?_
        exact Rn.weak (ll_n (ll_n (ll_n (ll_n ll_e)))) (rX12_isDoorToDoor_b40 hd hq e)
    · rw [if_neg c_6025] at e
      refine Rn.bt hT rfl rfl rfl (decide_eq_true c_6025) ?_
      exact Rn.weak (ll_n (ll_n (ll_n (ll_n ll_e)))) (rX12_isDoorToDoor_b40 hd hq e)
set_option maxRecDepth 10000 in
theorem hX12_isMismatch : iv_Tb 205 tX12_isMismatch := iv_tb_of (m := mX12_isMismatch) rfl
set_option maxRecDepth 10000 in
theorem gX12_isMismatch : PG.2 205 = some mX12_isMismatch := iv_pi_of (t := tX12_isMismatch) rfl (by decide)
def fX12_isMismatch_b27 (N : Nat) (h : iv_H)  (s0 : Int32) : Option (Int32) := (if s0 = 0 ∨ s0 = 1 then some s0 else none)
set_option maxRecDepth 10000 in
set_option maxHeartbeats 4000000 in
theorem rX12_isMismatch_b27 {d N : Nat} (hd : 4 ≤ d) {h : iv_H}  {s0 : Int32} {r : Int32} {Q : Option Value → iv_H → Prop} (hq : Q (some (.int r)) h) (e : fX12_isMismatch_b27 N h  s0 = some r) : Rn d 205 (some .boolean) 27 [none, none, none, none] [.int s0] h Q := by
  have hT := hX12_isMismatch
  unfold fX12_isMismatch_b27 at e
  by_cases c_6041 : s0 = 0 ∨ s0 = 1
  · rw [if_pos c_6041] at e
    obtain rfl := Option.some.inj e
    exact Rn.ret hT rfl rfl (if_pos c_6041) hq
  · rw [if_neg c_6041] at e
    cases e
def fX12_isMismatch_b62 (N : Nat) (h : iv_H)  (s0 : Int32) : Option (Int32) := (if s0 = 0 ∨ s0 = 1 then some s0 else none)
set_option maxRecDepth 10000 in
set_option maxHeartbeats 4000000 in
theorem rX12_isMismatch_b62 {d N : Nat} (hd : 4 ≤ d) {h : iv_H}  {s0 : Int32} {r : Int32} {Q : Option Value → iv_H → Prop} (hq : Q (some (.int r)) h) (e : fX12_isMismatch_b62 N h  s0 = some r) : Rn d 205 (some .boolean) 62 [none, none, none, none] [.int s0] h Q := by
  have hT := hX12_isMismatch
  unfold fX12_isMismatch_b62 at e
  by_cases c_6049 : s0 = 0 ∨ s0 = 1
  · rw [if_pos c_6049] at e
    obtain rfl := Option.some.inj e
    exact Rn.ret hT rfl rfl (if_pos c_6049) hq
  · rw [if_neg c_6049] at e
    cases e
def fX12_isMismatch_b61 (N : Nat) (h : iv_H)   : Option (Int32) := (fX12_isMismatch_b62 N h (0 : Int32))
set_option maxRecDepth 10000 in
set_option maxHeartbeats 4000000 in
theorem rX12_isMismatch_b61 {d N : Nat} (hd : 4 ≤ d) {h : iv_H}   {r : Int32} {Q : Option Value → iv_H → Prop} (hq : Q (some (.int r)) h) (e : fX12_isMismatch_b61 N h   = some r) : Rn d 205 (some .boolean) 61 [none, none, none, none] [] h Q := by
  have hT := hX12_isMismatch
  unfold fX12_isMismatch_b61 at e
  refine Rn.n hT 1 (pc' := 62) (L' := [none, none, none, none]) (st' := [.int (0 : Int32)]) rfl ?_
  exact Rn.weak (ll_n (ll_n (ll_n (ll_n ll_e)))) (rX12_isMismatch_b62 hd hq e)
def fX12_isMismatch_b38 (N : Nat) (h : iv_H) (q0 : Nat) (x1 : Int32) (x2 : Int32) (x3 : Int32)  : Option (Int32) := ((cko h q0 12).bind fun _ => (fX12_sortAt N h q0 x1 x2).bind fun v_6044 => ((cko h q0 12).bind fun _ => (fX12_sortAt N h q0 x3 ((x2 + (2 : Int32)) &&& (3 : Int32))).bind fun v_6047 => (if v_6044 = v_6047 then (fX12_isMismatch_b61 N h) else (fX12_isMismatch_b62 N h (1 : Int32)))))
set_option maxRecDepth 10000 in
set_option maxHeartbeats 4000000 in
theorem rX12_isMismatch_b38 {d N : Nat} (hd : 4 ≤ d) {h : iv_H} {q0 : Nat} {x1 : Int32} {x2 : Int32} {x3 : Int32}  {r : Int32} {Q : Option Value → iv_H → Prop} (hq : Q (some (.int r)) h) (e : fX12_isMismatch_b38 N h q0 x1 x2 x3  = some r) : Rn d 205 (some .boolean) 38 [some (.ref q0), some (.int x1), some (.int x2), some (.int x3)] [] h Q := by
  have hT := hX12_isMismatch
  unfold fX12_isMismatch_b38 at e
  refine Rn.n hT 3 (pc' := 41) (L' := [some (.ref q0), some (.int x1), some (.int x2), some (.int x3)]) (st' := [.int x2, .int x1, .ref q0]) rfl ?_
  obtain ⟨_, e_6043, e⟩ := Option.bind_eq_some_iff.mp e
  obtain ⟨v_6044, e_6042, e⟩ := Option.bind_eq_some_iff.mp e
  refine Rn.call hT rfl rfl rfl (Nat.le_of_ble_eq_true rfl) (rcv_v gX12_sortAt (by omega) e_6043) (rX12_sortAt (by omega) e_6042 ?_)
  show Rn d _ _ 44 [some (.ref q0), some (.int x1), some (.int x2), some (.int x3)] [.int v_6044] h Q
  refine Rn.n hT 7 (pc' := 51) (L' := [some (.ref q0), some (.int x1), some (.int x2), some (.int x3)]) (st' := [.int ((x2 + (2 : Int32)) &&& (3 : Int32)), .int x3, .ref q0, .int v_6044]) rfl ?_
  obtain ⟨_, e_6046, e⟩ := Option.bind_eq_some_iff.mp e
  obtain ⟨v_6047, e_6045, e⟩ := Option.bind_eq_some_iff.mp e
  refine Rn.call hT rfl rfl rfl (Nat.le_of_ble_eq_true rfl) (rcv_v gX12_sortAt (by omega) e_6046) (rX12_sortAt (by omega) e_6045 ?_)
  show Rn d _ _ 54 [some (.ref q0), some (.int x1), some (.int x2), some (.int x3)] [.int v_6047, .int v_6044] h Q
  by_cases c_6048 : v_6044 = v_6047
  · rw [if_pos c_6048] at e
    refine Rn.bt hT rfl rfl rfl (decide_eq_true c_6048) ?_
    exact Rn.weak (ll_n (ll_n (ll_n (ll_n ll_e)))) (rX12_isMismatch_b61 hd hq e)
  · rw [if_neg c_6048] at e
    refine Rn.bf hT rfl rfl rfl (decide_eq_false c_6048) ?_
    refine Rn.n hT 2 (pc' := 62) (L' := [some (.ref q0), some (.int x1), some (.int x2), some (.int x3)]) (st' := [.int (1 : Int32)]) rfl ?_
    exact Rn.weak (ll_n (ll_n (ll_n (ll_n ll_e)))) (rX12_isMismatch_b62 hd hq e)
def fX12_isMismatch (N : Nat) (h : iv_H) (q0 : Nat) (x1 : Int32) (x2 : Int32) : Option (Int32) := ((cko h q0 12).bind fun _ => (fX12_faced N h q0 x1 x2).bind fun v_6033 => (if v_6033 = (-1 : Int32) then ((cko h q0 12).bind fun _ => (fX12_sortAt N h q0 x1 x2).bind fun v_6039 => (if v_6039 = (1 : Int32) then (fX12_isMismatch_b27 N h (1 : Int32)) else (fX12_isMismatch_b27 N h (0 : Int32)))) else (if x2 = (1 : Int32) then (fX12_isMismatch_b38 N h q0 x1 x2 v_6033) else (if x2 = (2 : Int32) then (fX12_isMismatch_b38 N h q0 x1 x2 v_6033) else (fX12_isMismatch_b61 N h)))))
set_option maxRecDepth 10000 in
set_option maxHeartbeats 4000000 in
theorem rX12_isMismatch {d N : Nat} (hd : 5 ≤ d) {h : iv_H} {q0 : Nat} {x1 : Int32} {x2 : Int32} {r : Int32} {Q : Option Value → iv_H → Prop} (e : fX12_isMismatch N h q0 x1 x2 = some r) (hq : Q (some (.int r)) h) : Cl d 205 [.ref q0, .int x1, .int x2] h Q := by
  obtain ⟨d, rfl⟩ : ∃ k, d = k + 1 := ⟨d - 1, by omega⟩
  have hd : 4 ≤ d := by omega
  have hT := hX12_isMismatch
  unfold fX12_isMismatch at e
  refine Cl.into (by decide) gX12_isMismatch rfl ?_
  show Rn d 205 (some .boolean) 0 [some (.ref q0), some (.int x1), some (.int x2), none] [] h Q
  refine Rn.n hT 3 (pc' := 3) (L' := [some (.ref q0), some (.int x1), some (.int x2), none]) (st' := [.int x2, .int x1, .ref q0]) rfl ?_
  obtain ⟨_, e_6032, e⟩ := Option.bind_eq_some_iff.mp e
  obtain ⟨v_6033, e_6031, e⟩ := Option.bind_eq_some_iff.mp e
  refine Rn.call hT rfl rfl rfl (Nat.le_of_ble_eq_true rfl) (rcv_v gX12_faced (by omega) e_6032) (rX12_faced (by omega) e_6031 ?_)
  show Rn d _ _ 6 [some (.ref q0), some (.int x1), some (.int x2), none] [.int v_6033] h Q
  refine Rn.n hT 3 (pc' := 9) (L' := [some (.ref q0), some (.int x1), some (.int x2), some (.int v_6033)]) (st' := [.int (-1 : Int32), .int v_6033]) rfl ?_
  by_cases c_6034 : v_6033 = (-1 : Int32)
  · rw [if_pos c_6034] at e
    refine Rn.bf hT rfl rfl rfl (decide_eq_false (fun z => z c_6034)) ?_
    refine Rn.n hT 3 (pc' := 15) (L' := [some (.ref q0), some (.int x1), some (.int x2), some (.int v_6033)]) (st' := [.int x2, .int x1, .ref q0]) rfl ?_
    obtain ⟨_, e_6038, e⟩ := Option.bind_eq_some_iff.mp e
    obtain ⟨v_6039, e_6037, e⟩ := Option.bind_eq_some_iff.mp e
    refine Rn.call hT rfl rfl rfl (Nat.le_of_ble_eq_true rfl) (rcv_v gX12_sortAt (by omega) e_6038) (rX12_sortAt (by omega) e_6037 ?_)
    show Rn d _ _ 18 [some (.ref q0), some (.int x1), some (.int x2), some (.int v_6033)] [.int v_6039] h Q
    refine Rn.n hT 1 (pc' := 19) (L' := [some (.ref q0), some (.int x1), some (.int x2), some (.int v_6033)]) (st' := [.int (1 : Int32), .int v_6039]) rfl ?_
    by_cases c_6040 : v_6039 = (1 : Int32)
    · rw [if_pos c_6040] at e
      refine Rn.bf hT rfl rfl rfl (decide_eq_false (fun z => z c_6040)) ?_
      refine Rn.n hT 2 (pc' := 27) (L' := [some (.ref q0), some (.int x1), some (.int x2), some (.int v_6033)]) (st' := [.int (1 : Int32)]) rfl ?_
      exact Rn.weak (ll_n (ll_n (ll_n (ll_n ll_e)))) (rX12_isMismatch_b27 hd hq e)
    · rw [if_neg c_6040] at e
      refine Rn.bt hT rfl rfl rfl (decide_eq_true c_6040) ?_
      refine Rn.n hT 1 (pc' := 27) (L' := [some (.ref q0), some (.int x1), some (.int x2), some (.int v_6033)]) (st' := [.int (0 : Int32)]) rfl ?_
      exact Rn.weak (ll_n (ll_n (ll_n (ll_n ll_e)))) (rX12_isMismatch_b27 hd hq e)
  · rw [if_neg c_6034] at e
    refine Rn.bt hT rfl rfl rfl (decide_eq_true c_6034) ?_
    refine Rn.n hT 2 (pc' := 30) (L' := [some (.ref q0), some (.int x1), some (.int x2), some (.int v_6033)]) (st' := [.int (1 : Int32), .int x2]) rfl ?_
    by_cases c_6035 : x2 = (1 : Int32)
    · rw [if_pos c_6035] at e
      refine Rn.bt hT rfl rfl rfl (decide_eq_true c_6035) ?_
      exact Rn.weak (ll_s (ll_s (ll_s (ll_s ll_e)))) (rX12_isMismatch_b38 hd hq e)
    · rw [if_neg c_6035] at e
      refine Rn.bf hT rfl rfl rfl (decide_eq_false c_6035) ?_
      refine Rn.n hT 2 (pc' := 35) (L' := [some (.ref q0), some (.int x1), some (.int x2), some (.int v_6033)]) (st' := [.int (2 : Int32), .int x2]) rfl ?_
      by_cases c_6036 : x2 = (2 : Int32)
      · rw [if_pos c_6036] at e
        refine Rn.bf hT rfl rfl rfl (decide_eq_false (fun z => z c_6036)) ?_
        exact Rn.weak (ll_s (ll_s (ll_s (ll_s ll_e)))) (rX12_isMismatch_b38 hd hq e)
      · rw [if_neg c_6036] at e
        refine Rn.bt hT rfl rfl rfl (decide_eq_true c_6036) ?_
        exact Rn.weak (ll_n (ll_n (ll_n (ll_n ll_e)))) (rX12_isMismatch_b61 hd hq e)
set_option maxRecDepth 10000 in
theorem hX12_mismatches : iv_Tb 206 tX12_mismatches := iv_tb_of (m := mX12_mismatches) rfl
set_option maxRecDepth 10000 in
theorem gX12_mismatches : PG.2 206 = some mX12_mismatches := iv_pi_of (t := tX12_mismatches) rfl (by decide)
def fX12_mismatches_b76 (N : Nat) (h : iv_H) (q0 : Nat) (x1 : Int32) (x2 : Int32) (x3 : Int32)  (kb : iv_H → Int32 → Int32 → Option (Int32 × iv_H)) (kx : iv_H → Int32 → Option (Int32 × iv_H)) : Option (Int32 × iv_H) := (kb h x1 (x3 + (1 : Int32)))
set_option maxRecDepth 10000 in
set_option maxHeartbeats 4000000 in
theorem rX12_mismatches_b76 {d N : Nat} (hd : 5 ≤ d) {h : iv_H} {q0 : Nat} {x1 : Int32} {x2 : Int32} {x3 : Int32}  {kb : iv_H → Int32 → Int32 → Option (Int32 × iv_H)} {kx : iv_H → Int32 → Option (Int32 × iv_H)} {r : Int32 × iv_H} {Q : Option Value → iv_H → Prop} (hb : ∀ (h : iv_H) (w1 : Int32) (w3 : Int32), kb h w1 w3 = some r → Rn d 206 (some .int) 12 [some (.ref q0), some (.int w1), some (.int x2), some (.int w3)] [] h Q) (hk : ∀ (h : iv_H) (w1 : Int32), kx h w1 = some r → Rn d 206 (some .int) 82 [some (.ref q0), some (.int w1), some (.int x2), none] [] h Q) (hq : Q (some (.int r.1)) r.2) (e : fX12_mismatches_b76 N h q0 x1 x2 x3  kb kx = some r) : Rn d 206 (some .int) 76 [some (.ref q0), some (.int x1), some (.int x2), some (.int x3)] [] h Q := by
  have hT := hX12_mismatches
  unfold fX12_mismatches_b76 at e
  refine Rn.n hT 2 (pc' := 12) (L' := [some (.ref q0), some (.int x1), some (.int x2), some (.int (x3 + (1 : Int32)))]) (st' := []) rfl ?_
  exact Rn.weak (ll_s (ll_s (ll_s (ll_s ll_e)))) (hb h x1 (x3 + (1 : Int32)) e)
def fX12_mismatches_b70 (N : Nat) (h : iv_H) (q0 : Nat) (x1 : Int32) (x2 : Int32) (x3 : Int32) (s0 : Int32) (sq1 : Nat) (kb : iv_H → Int32 → Int32 → Option (Int32 × iv_H)) (kx : iv_H → Int32 → Option (Int32 × iv_H)) : Option (Int32 × iv_H) := ((pV h 12 27 sq1 (.int s0)).bind fun h_6077 => (fX12_mismatches_b76 N h_6077 q0 (x1 + (1 : Int32)) x2 x3 kb kx))
set_option maxRecDepth 10000 in
set_option maxHeartbeats 4000000 in
theorem rX12_mismatches_b70 {d N : Nat} (hd : 5 ≤ d) {h : iv_H} {q0 : Nat} {x1 : Int32} {x2 : Int32} {x3 : Int32} {s0 : Int32} {sq1 : Nat} {kb : iv_H → Int32 → Int32 → Option (Int32 × iv_H)} {kx : iv_H → Int32 → Option (Int32 × iv_H)} {r : Int32 × iv_H} {Q : Option Value → iv_H → Prop} (hb : ∀ (h : iv_H) (w1 : Int32) (w3 : Int32), kb h w1 w3 = some r → Rn d 206 (some .int) 12 [some (.ref q0), some (.int w1), some (.int x2), some (.int w3)] [] h Q) (hk : ∀ (h : iv_H) (w1 : Int32), kx h w1 = some r → Rn d 206 (some .int) 82 [some (.ref q0), some (.int w1), some (.int x2), none] [] h Q) (hq : Q (some (.int r.1)) r.2) (e : fX12_mismatches_b70 N h q0 x1 x2 x3 s0 sq1 kb kx = some r) : Rn d 206 (some .int) 70 [some (.ref q0), some (.int x1), some (.int x2), some (.int x3)] [.int s0, .ref sq1] h Q := by
  have hT := hX12_mismatches
  unfold fX12_mismatches_b70 at e
  obtain ⟨h_6077, e_6078, e⟩ := Option.bind_eq_some_iff.mp e
  refine Rn.hp hT rfl rfl (pV_hp rfl e_6078) ?_
  refine Rn.n hT 1 (pc' := 76) (L' := [some (.ref q0), some (.int (x1 + (1 : Int32))), some (.int x2), some (.int x3)]) (st' := []) rfl ?_
  exact Rn.weak (ll_s (ll_s (ll_s (ll_s ll_e)))) (rX12_mismatches_b76 hd hb hk hq e)
def fX12_mismatches_b54 (N : Nat) (h : iv_H) (q0 : Nat) (x1 : Int32) (x2 : Int32) (x3 : Int32) (s0 : Int32) (sq1 : Nat) (kb : iv_H → Int32 → Int32 → Option (Int32 × iv_H)) (kx : iv_H → Int32 → Option (Int32 × iv_H)) : Option (Int32 × iv_H) := ((pV h 12 26 sq1 (.int s0)).bind fun h_6072 => (if x1 = 0 then (fX12_mismatches_b70 N h_6072 q0 x1 x2 x3 x3 q0 kb kx) else ((gI h_6072 12 27 q0).bind fun v_6075 => (fX12_mismatches_b70 N h_6072 q0 x1 x2 x3 v_6075 q0 kb kx))))
set_option maxRecDepth 10000 in
set_option maxHeartbeats 4000000 in
theorem rX12_mismatches_b54 {d N : Nat} (hd : 5 ≤ d) {h : iv_H} {q0 : Nat} {x1 : Int32} {x2 : Int32} {x3 : Int32} {s0 : Int32} {sq1 : Nat} {kb : iv_H → Int32 → Int32 → Option (Int32 × iv_H)} {kx : iv_H → Int32 → Option (Int32 × iv_H)} {r : Int32 × iv_H} {Q : Option Value → iv_H → Prop} (hb : ∀ (h : iv_H) (w1 : Int32) (w3 : Int32), kb h w1 w3 = some r → Rn d 206 (some .int) 12 [some (.ref q0), some (.int w1), some (.int x2), some (.int w3)] [] h Q) (hk : ∀ (h : iv_H) (w1 : Int32), kx h w1 = some r → Rn d 206 (some .int) 82 [some (.ref q0), some (.int w1), some (.int x2), none] [] h Q) (hq : Q (some (.int r.1)) r.2) (e : fX12_mismatches_b54 N h q0 x1 x2 x3 s0 sq1 kb kx = some r) : Rn d 206 (some .int) 54 [some (.ref q0), some (.int x1), some (.int x2), some (.int x3)] [.int s0, .ref sq1] h Q := by
  have hT := hX12_mismatches
  unfold fX12_mismatches_b54 at e
  obtain ⟨h_6072, e_6073, e⟩ := Option.bind_eq_some_iff.mp e
  refine Rn.hp hT rfl rfl (pV_hp rfl e_6073) ?_
  refine Rn.n hT 2 (pc' := 59) (L' := [some (.ref q0), some (.int x1), some (.int x2), some (.int x3)]) (st' := [.int x1, .ref q0]) rfl ?_
  by_cases c_6074 : x1 = 0
  · rw [if_pos c_6074] at e
    refine Rn.bf hT rfl rfl rfl (decide_eq_false (fun z => z c_6074)) ?_
    refine Rn.n hT 2 (pc' := 70) (L' := [some (.ref q0), some (.int x1), some (.int x2), some (.int x3)]) (st' := [.int x3, .ref q0]) rfl ?_
    exact Rn.weak (ll_s (ll_s (ll_s (ll_s ll_e)))) (rX12_mismatches_b70 hd hb hk hq e)
  · rw [if_neg c_6074] at e
    refine Rn.bt hT rfl rfl rfl (decide_eq_true c_6074) ?_
    refine Rn.n hT 1 (pc' := 67) (L' := [some (.ref q0), some (.int x1), some (.int x2), some (.int x3)]) (st' := [.ref q0, .ref q0]) rfl ?_
    obtain ⟨v_6075, e_6076, e⟩ := Option.bind_eq_some_iff.mp e
    refine Rn.hp hT rfl rfl (gI_hp e_6076) ?_
    exact Rn.weak (ll_s (ll_s (ll_s (ll_s ll_e)))) (rX12_mismatches_b70 hd hb hk hq e)
def fX12_mismatches_l12 (N : Nat) (q0 : Nat) (x2 : Int32) (kx : iv_H → Int32 → Option (Int32 × iv_H)) : Nat → iv_H → Int32 → Int32 → Option (Int32 × iv_H)
  | 0, _, _, _ => none
  | n + 1, h, x1, x3 => (if (4 : Int32) ≤ x3 then (kx h x1) else ((gR h 12 8 q0).bind fun v_6056 => ((aI h v_6056 x2).bind fun v_6058 => (if v_6058 = (-1 : Int32) then (kx h x1) else ((gR h 12 8 q0).bind fun v_6061 => ((aI h v_6061 x2).bind fun v_6063 => ((cko h q0 12).bind fun _ => (fX12_isMismatch N h q0 v_6063 x3).bind fun v_6067 => (if v_6067 = 0 then (fX12_mismatches_b76 N h q0 x1 x2 x3 (fX12_mismatches_l12 N q0 x2 kx n) kx) else (if x1 = 0 then (fX12_mismatches_b54 N h q0 x1 x2 x3 x2 q0 (fX12_mismatches_l12 N q0 x2 kx n) kx) else ((gI h 12 26 q0).bind fun v_6070 => (fX12_mismatches_b54 N h q0 x1 x2 x3 v_6070 q0 (fX12_mismatches_l12 N q0 x2 kx n) kx)))))))))))
set_option maxRecDepth 10000 in
set_option maxHeartbeats 4000000 in
theorem rX12_mismatches_l12 {d N : Nat} (hd : 5 ≤ d) {q0 : Nat} {x2 : Int32} {kx : iv_H → Int32 → Option (Int32 × iv_H)} {r : Int32 × iv_H} {Q : Option Value → iv_H → Prop} (hk : ∀ (h : iv_H) (x1 : Int32), kx h x1 = some r → Rn d 206 (some .int) 82 [some (.ref q0), some (.int x1), some (.int x2), none] [] h Q) (hq : Q (some (.int r.1)) r.2) : ∀ (n : Nat) (h : iv_H) (x1 : Int32) (x3 : Int32), fX12_mismatches_l12 N q0 x2 kx n h x1 x3 = some r → Rn d 206 (some .int) 12 [some (.ref q0), some (.int x1), some (.int x2), some (.int x3)] [] h Q := by
  have hT := hX12_mismatches
  intro n
  induction n with
  | zero =>
    intro h x1 x3 e
    rw [fX12_mismatches_l12] at e
    cases e
  | succ n ih =>
    intro h x1 x3 e
    rw [fX12_mismatches_l12] at e
    refine Rn.n hT 2 (pc' := 14) (L' := [some (.ref q0), some (.int x1), some (.int x2), some (.int x3)]) (st' := [.int (4 : Int32), .int x3]) rfl ?_
    by_cases c_6055 : (4 : Int32) ≤ x3
    · rw [if_pos c_6055] at e
      refine Rn.bt hT rfl rfl rfl (decide_eq_true c_6055) ?_
      exact Rn.weak (ll_s (ll_s (ll_s (ll_n ll_e)))) (hk h x1 e)
    · rw [if_neg c_6055] at e
      refine Rn.bf hT rfl rfl rfl (decide_eq_false c_6055) ?_
      refine Rn.n hT 1 (pc' := 18) (L' := [some (.ref q0), some (.int x1), some (.int x2), some (.int x3)]) (st' := [.ref q0]) rfl ?_
      obtain ⟨v_6056, e_6057, e⟩ := Option.bind_eq_some_iff.mp e
      refine Rn.hp hT rfl rfl (gR_hp e_6057) ?_
      refine Rn.n hT 1 (pc' := 22) (L' := [some (.ref q0), some (.int x1), some (.int x2), some (.int x3)]) (st' := [.int x2, .ref v_6056]) rfl ?_
      obtain ⟨v_6058, e_6059, e⟩ := Option.bind_eq_some_iff.mp e
      refine Rn.hp hT rfl rfl (aI_hp e_6059) ?_
      refine Rn.n hT 1 (pc' := 24) (L' := [some (.ref q0), some (.int x1), some (.int x2), some (.int x3)]) (st' := [.int (-1 : Int32), .int v_6058]) rfl ?_
      by_cases c_6060 : v_6058 = (-1 : Int32)
      · rw [if_pos c_6060] at e
        refine Rn.bt hT rfl rfl rfl (decide_eq_true c_6060) ?_
        exact Rn.weak (ll_s (ll_s (ll_s (ll_n ll_e)))) (hk h x1 e)
      · rw [if_neg c_6060] at e
        refine Rn.bf hT rfl rfl rfl (decide_eq_false c_6060) ?_
        refine Rn.n hT 2 (pc' := 29) (L' := [some (.ref q0), some (.int x1), some (.int x2), some (.int x3)]) (st' := [.ref q0, .ref q0]) rfl ?_
        obtain ⟨v_6061, e_6062, e⟩ := Option.bind_eq_some_iff.mp e
        refine Rn.hp hT rfl rfl (gR_hp e_6062) ?_
        refine Rn.n hT 1 (pc' := 33) (L' := [some (.ref q0), some (.int x1), some (.int x2), some (.int x3)]) (st' := [.int x2, .ref v_6061, .ref q0]) rfl ?_
        obtain ⟨v_6063, e_6064, e⟩ := Option.bind_eq_some_iff.mp e
        refine Rn.hp hT rfl rfl (aI_hp e_6064) ?_
        refine Rn.n hT 1 (pc' := 35) (L' := [some (.ref q0), some (.int x1), some (.int x2), some (.int x3)]) (st' := [.int x3, .int v_6063, .ref q0]) rfl ?_
        obtain ⟨_, e_6066, e⟩ := Option.bind_eq_some_iff.mp e
        obtain ⟨v_6067, e_6065, e⟩ := Option.bind_eq_some_iff.mp e
        refine Rn.call hT rfl rfl rfl (Nat.le_of_ble_eq_true rfl) (rcv_v gX12_isMismatch (by omega) e_6066) (rX12_isMismatch (by omega) e_6065 ?_)
        show Rn d _ _ 38 [some (.ref q0), some (.int x1), some (.int x2), some (.int x3)] [.int v_6067] h Q
        by_cases c_6068 : v_6067 = 0
        · rw [if_pos c_6068] at e
          refine Rn.bt hT rfl rfl rfl (decide_eq_true c_6068) ?_
          exact Rn.weak (ll_s (ll_s (ll_s (ll_s ll_e)))) (rX12_mismatches_b76 hd ih hk hq e)
        · rw [if_neg c_6068] at e
          refine Rn.bf hT rfl rfl rfl (decide_eq_false c_6068) ?_
          refine Rn.n hT 2 (pc' := 43) (L' := [some (.ref q0), some (.int x1), some (.int x2), some (.int x3)]) (st' := [.int x1, .ref q0]) rfl ?_
          by_cases c_6069 : x1 = 0
          · rw [if_pos c_6069] at e
            refine Rn.bf hT rfl rfl rfl (decide_eq_false (fun z => z c_6069)) ?_
            refine Rn.n hT 2 (pc' := 54) (L' := [some (.ref q0), some (.int x1), some (.int x2), some (.int x3)]) (st' := [.int x2, .ref q0]) rfl ?_
            exact Rn.weak (ll_s (ll_s (ll_s (ll_s ll_e)))) (rX12_mismatches_b54 hd ih hk hq e)
          · rw [if_neg c_6069] at e
            refine Rn.bt hT rfl rfl rfl (decide_eq_true c_6069) ?_
            refine Rn.n hT 1 (pc' := 51) (L' := [some (.ref q0), some (.int x1), some (.int x2), some (.int x3)]) (st' := [.ref q0, .ref q0]) rfl ?_
            obtain ⟨v_6070, e_6071, e⟩ := Option.bind_eq_some_iff.mp e
            refine Rn.hp hT rfl rfl (gI_hp e_6071) ?_
            exact Rn.weak (ll_s (ll_s (ll_s (ll_s ll_e)))) (rX12_mismatches_b54 hd ih hk hq e)
def fX12_mismatches_b82 (N : Nat) (h : iv_H) (q0 : Nat) (x1 : Int32) (x2 : Int32)  (kb : iv_H → Int32 → Int32 → Option (Int32 × iv_H)) (kx : iv_H → Int32 → Option (Int32 × iv_H)) : Option (Int32 × iv_H) := (kb h x1 (x2 + (1 : Int32)))
set_option maxRecDepth 10000 in
set_option maxHeartbeats 4000000 in
theorem rX12_mismatches_b82 {d N : Nat} (hd : 5 ≤ d) {h : iv_H} {q0 : Nat} {x1 : Int32} {x2 : Int32}  {kb : iv_H → Int32 → Int32 → Option (Int32 × iv_H)} {kx : iv_H → Int32 → Option (Int32 × iv_H)} {r : Int32 × iv_H} {Q : Option Value → iv_H → Prop} (hb : ∀ (h : iv_H) (w1 : Int32) (w2 : Int32), kb h w1 w2 = some r → Rn d 206 (some .int) 4 [some (.ref q0), some (.int w1), some (.int w2), none] [] h Q) (hk : ∀ (h : iv_H) (w1 : Int32), kx h w1 = some r → Rn d 206 (some .int) 88 [none, some (.int w1), none, none] [] h Q) (hq : Q (some (.int r.1)) r.2) (e : fX12_mismatches_b82 N h q0 x1 x2  kb kx = some r) : Rn d 206 (some .int) 82 [some (.ref q0), some (.int x1), some (.int x2), none] [] h Q := by
  have hT := hX12_mismatches
  unfold fX12_mismatches_b82 at e
  refine Rn.n hT 2 (pc' := 4) (L' := [some (.ref q0), some (.int x1), some (.int (x2 + (1 : Int32))), none]) (st' := []) rfl ?_
  exact Rn.weak (ll_s (ll_s (ll_s (ll_n ll_e)))) (hb h x1 (x2 + (1 : Int32)) e)
def fX12_mismatches_l4 (N : Nat) (q0 : Nat) (kx : iv_H → Int32 → Option (Int32 × iv_H)) : Nat → iv_H → Int32 → Int32 → Option (Int32 × iv_H)
  | 0, _, _, _ => none
  | n + 1, h, x1, x2 => (if (16 : Int32) ≤ x2 then (kx h x1) else (fX12_mismatches_l12 N q0 x2 (fun (h_6053 : iv_H) (z_6054 : Int32) => (fX12_mismatches_b82 N h_6053 q0 z_6054 x2 (fX12_mismatches_l4 N q0 kx n) kx)) N h x1 (0 : Int32)))
set_option maxRecDepth 10000 in
set_option maxHeartbeats 4000000 in
theorem rX12_mismatches_l4 {d N : Nat} (hd : 5 ≤ d) {q0 : Nat} {kx : iv_H → Int32 → Option (Int32 × iv_H)} {r : Int32 × iv_H} {Q : Option Value → iv_H → Prop} (hk : ∀ (h : iv_H) (x1 : Int32), kx h x1 = some r → Rn d 206 (some .int) 88 [none, some (.int x1), none, none] [] h Q) (hq : Q (some (.int r.1)) r.2) : ∀ (n : Nat) (h : iv_H) (x1 : Int32) (x2 : Int32), fX12_mismatches_l4 N q0 kx n h x1 x2 = some r → Rn d 206 (some .int) 4 [some (.ref q0), some (.int x1), some (.int x2), none] [] h Q := by
  have hT := hX12_mismatches
  intro n
  induction n with
  | zero =>
    intro h x1 x2 e
    rw [fX12_mismatches_l4] at e
    cases e
  | succ n ih =>
    intro h x1 x2 e
    rw [fX12_mismatches_l4] at e
    refine Rn.n hT 2 (pc' := 7) (L' := [some (.ref q0), some (.int x1), some (.int x2), none]) (st' := [.int (16 : Int32), .int x2]) rfl ?_
    by_cases c_6052 : (16 : Int32) ≤ x2
    · rw [if_pos c_6052] at e
      refine Rn.bt hT rfl rfl rfl (decide_eq_true c_6052) ?_
      exact Rn.weak (ll_n (ll_s (ll_n (ll_n ll_e)))) (hk h x1 e)
    · rw [if_neg c_6052] at e
      refine Rn.bf hT rfl rfl rfl (decide_eq_false c_6052) ?_
      refine Rn.n hT 2 (pc' := 12) (L' := [some (.ref q0), some (.int x1), some (.int x2), some (.int (0 : Int32))]) (st' := []) rfl ?_
      refine Rn.weak (ll_s (ll_s (ll_s (ll_s ll_e)))) (rX12_mismatches_l12 hd (fun h_6053 z_6054 e => ?_) hq N h x1 (0 : Int32) e)
      try dsimp only at e
      exact Rn.weak (ll_s (ll_s (ll_s (ll_n ll_e)))) (rX12_mismatches_b82 hd ih hk hq e)
def fX12_mismatches (N : Nat) (h : iv_H) (q0 : Nat) : Option (Int32 × iv_H) := (fX12_mismatches_l4 N q0 (fun (h_6050 : iv_H) (z_6051 : Int32) => (some (z_6051, h_6050))) N h (0 : Int32) (0 : Int32))
set_option maxRecDepth 10000 in
set_option maxHeartbeats 4000000 in
theorem rX12_mismatches {d N : Nat} (hd : 6 ≤ d) {h : iv_H} {q0 : Nat} {r : Int32 × iv_H} {Q : Option Value → iv_H → Prop} (e : fX12_mismatches N h q0 = some r) (hq : Q (some (.int r.1)) r.2) : Cl d 206 [.ref q0] h Q := by
  obtain ⟨d, rfl⟩ : ∃ k, d = k + 1 := ⟨d - 1, by omega⟩
  have hd : 5 ≤ d := by omega
  have hT := hX12_mismatches
  unfold fX12_mismatches at e
  refine Cl.into (by decide) gX12_mismatches rfl ?_
  show Rn d 206 (some .int) 0 [some (.ref q0), none, none, none] [] h Q
  refine Rn.n hT 4 (pc' := 4) (L' := [some (.ref q0), some (.int (0 : Int32)), some (.int (0 : Int32)), none]) (st' := []) rfl ?_
  refine Rn.weak (ll_s (ll_s (ll_s (ll_n ll_e)))) (rX12_mismatches_l4 hd (fun h_6050 z_6051 e => ?_) hq N h (0 : Int32) (0 : Int32) e)
  try dsimp only at e
  refine Rn.n hT 1 (pc' := 89) (L' := [none, some (.int z_6051), none, none]) (st' := [.int z_6051]) rfl ?_
  obtain rfl := Option.some.inj e
  exact Rn.ret hT rfl rfl rfl hq
set_option maxRecDepth 10000 in
theorem hX12_put : iv_Tb 208 tX12_put := iv_tb_of (m := mX12_put) rfl
set_option maxRecDepth 10000 in
theorem gX12_put : PG.2 208 = some mX12_put := iv_pi_of (t := tX12_put) rfl (by decide)
def fX12_put_l3 (N : Nat) (q0 : Nat) (x1 : Int32) (kx : iv_H → Option (iv_H)) : Nat → iv_H → Int32 → Option (iv_H)
  | 0, _, _ => none
  | n + 1, h, x2 => (if x2 < 0 then (kx h) else ((gR h 12 39 q0).bind fun v_6081 => ((gI h 12 28 q0).bind fun v_6083 => ((wB h v_6081 v_6083 (((x1 >>> (x2 &&& 31))).toInt8.toInt32)).bind fun h_6085 => ((gI h_6085 12 28 q0).bind fun v_6087 => ((pV h_6085 12 28 q0 (.int (v_6087 + (1 : Int32)))).bind fun h_6089 => (fX12_put_l3 N q0 x1 kx n h_6089 (x2 + (-8 : Int32)))))))))
set_option maxRecDepth 10000 in
set_option maxHeartbeats 4000000 in
theorem rX12_put_l3 {d N : Nat} (hd : 0 ≤ d) {q0 : Nat} {x1 : Int32} {kx : iv_H → Option (iv_H)} {r : iv_H} {Q : Option Value → iv_H → Prop} (hk : ∀ (h : iv_H), kx h = some r → Rn d 208 none 36 [none, none, none] [] h Q) (hq : Q none r) : ∀ (n : Nat) (h : iv_H) (x2 : Int32), fX12_put_l3 N q0 x1 kx n h x2 = some r → Rn d 208 none 3 [some (.ref q0), some (.int x1), some (.int x2)] [] h Q := by
  have hT := hX12_put
  intro n
  induction n with
  | zero =>
    intro h x2 e
    rw [fX12_put_l3] at e
    cases e
  | succ n ih =>
    intro h x2 e
    rw [fX12_put_l3] at e
    refine Rn.n hT 1 (pc' := 4) (L' := [some (.ref q0), some (.int x1), some (.int x2)]) (st' := [.int x2]) rfl ?_
    by_cases c_6080 : x2 < 0
    · rw [if_pos c_6080] at e
      refine Rn.bt hT rfl rfl rfl (decide_eq_true c_6080) ?_
      exact Rn.weak (ll_n (ll_n (ll_n ll_e))) (hk h e)
    · rw [if_neg c_6080] at e
      refine Rn.bf hT rfl rfl rfl (decide_eq_false c_6080) ?_
      refine Rn.n hT 1 (pc' := 8) (L' := [some (.ref q0), some (.int x1), some (.int x2)]) (st' := [.ref q0]) rfl ?_
      obtain ⟨v_6081, e_6082, e⟩ := Option.bind_eq_some_iff.mp e
      refine Rn.hp hT rfl rfl (gR_hp e_6082) ?_
      refine Rn.n hT 1 (pc' := 12) (L' := [some (.ref q0), some (.int x1), some (.int x2)]) (st' := [.ref q0, .ref v_6081]) rfl ?_
      obtain ⟨v_6083, e_6084, e⟩ := Option.bind_eq_some_iff.mp e
      refine Rn.hp hT rfl rfl (gI_hp e_6084) ?_
      refine Rn.n hT 4 (pc' := 19) (L' := [some (.ref q0), some (.int x1), some (.int x2)]) (st' := [.int (((x1 >>> (x2 &&& 31))).toInt8.toInt32), .int v_6083, .ref v_6081]) rfl ?_
      obtain ⟨h_6085, e_6086, e⟩ := Option.bind_eq_some_iff.mp e
      refine Rn.hp hT rfl rfl (wB_hp e_6086) ?_
      refine Rn.n hT 2 (pc' := 22) (L' := [some (.ref q0), some (.int x1), some (.int x2)]) (st' := [.ref q0, .ref q0]) rfl ?_
      obtain ⟨v_6087, e_6088, e⟩ := Option.bind_eq_some_iff.mp e
      refine Rn.hp hT rfl rfl (gI_hp e_6088) ?_
      refine Rn.n hT 2 (pc' := 27) (L' := [some (.ref q0), some (.int x1), some (.int x2)]) (st' := [.int (v_6087 + (1 : Int32)), .ref q0]) rfl ?_
      obtain ⟨h_6089, e_6090, e⟩ := Option.bind_eq_some_iff.mp e
      refine Rn.hp hT rfl rfl (pV_hp rfl e_6090) ?_
      refine Rn.n hT 2 (pc' := 3) (L' := [some (.ref q0), some (.int x1), some (.int (x2 + (-8 : Int32)))]) (st' := []) rfl ?_
      exact Rn.weak (ll_s (ll_s (ll_s ll_e))) (ih h_6089 (x2 + (-8 : Int32)) e)
def fX12_put (N : Nat) (h : iv_H) (q0 : Nat) (x1 : Int32) : Option (iv_H) := (fX12_put_l3 N q0 x1 (fun (h_6079 : iv_H) => some h_6079) N h (24 : Int32))
set_option maxRecDepth 10000 in
set_option maxHeartbeats 4000000 in
theorem rX12_put {d N : Nat} (hd : 1 ≤ d) {h : iv_H} {q0 : Nat} {x1 : Int32} {r : iv_H} {Q : Option Value → iv_H → Prop} (e : fX12_put N h q0 x1 = some r) (hq : Q none r) : Cl d 208 [.ref q0, .int x1] h Q := by
  obtain ⟨d, rfl⟩ : ∃ k, d = k + 1 := ⟨d - 1, by omega⟩
  have hd : 0 ≤ d := by omega
  have hT := hX12_put
  unfold fX12_put at e
  refine Cl.into (by decide) gX12_put rfl ?_
  show Rn d 208 none 0 [some (.ref q0), some (.int x1), none] [] h Q
  refine Rn.n hT 2 (pc' := 3) (L' := [some (.ref q0), some (.int x1), some (.int (24 : Int32))]) (st' := []) rfl ?_
  refine Rn.weak (ll_s (ll_s (ll_s ll_e))) (rX12_put_l3 hd (fun h_6079 e => ?_) hq N h (24 : Int32) e)
  try dsimp only at e
  obtain rfl := Option.some.inj e
  exact Rn.ret hT rfl rfl rfl hq
set_option maxRecDepth 10000 in
theorem hX12_feed : iv_Tb 207 tX12_feed := iv_tb_of (m := mX12_feed) rfl
set_option maxRecDepth 10000 in
theorem gX12_feed : PG.2 207 = some mX12_feed := iv_pi_of (t := tX12_feed) rfl (by decide)
def fX12_feed (N : Nat) (h : iv_H) (q0 : Nat) (x1 : Int32) (x2 : Int32) (x3 : Int32) (x4 : Int32) (x5 : Int32) : Option (Int32 × iv_H) := ((gI h 12 28 q0).bind fun v_6091 => (if (v_6091 + (20 : Int32)) ≤ (400 : Int32) then ((cko h q0 12).bind fun _ => (fX12_put N h q0 x1).bind fun h_6097 => ((cko h_6097 q0 12).bind fun _ => (fX12_put N h_6097 q0 x2).bind fun h_6101 => ((cko h_6101 q0 12).bind fun _ => (fX12_put N h_6101 q0 x3).bind fun h_6105 => ((cko h_6105 q0 12).bind fun _ => (fX12_put N h_6105 q0 x4).bind fun h_6109 => ((cko h_6109 q0 12).bind fun _ => (fX12_put N h_6109 q0 x5).bind fun h_6113 => ((gI h_6113 12 28 q0).bind fun v_6114 => (some (v_6114, h_6113)))))))) else (some ((-1 : Int32), h))))
set_option maxRecDepth 10000 in
set_option maxHeartbeats 4000000 in
theorem rX12_feed {d N : Nat} (hd : 2 ≤ d) {h : iv_H} {q0 : Nat} {x1 : Int32} {x2 : Int32} {x3 : Int32} {x4 : Int32} {x5 : Int32} {r : Int32 × iv_H} {Q : Option Value → iv_H → Prop} (e : fX12_feed N h q0 x1 x2 x3 x4 x5 = some r) (hq : Q (some (.int r.1)) r.2) : Cl d 207 [.ref q0, .int x1, .int x2, .int x3, .int x4, .int x5] h Q := by
  obtain ⟨d, rfl⟩ : ∃ k, d = k + 1 := ⟨d - 1, by omega⟩
  have hd : 1 ≤ d := by omega
  have hT := hX12_feed
  unfold fX12_feed at e
  refine Cl.into (by decide) gX12_feed rfl ?_
  show Rn d 207 (some .int) 0 [some (.ref q0), some (.int x1), some (.int x2), some (.int x3), some (.int x4), some (.int x5)] [] h Q
  refine Rn.n hT 1 (pc' := 1) (L' := [some (.ref q0), some (.int x1), some (.int x2), some (.int x3), some (.int x4), some (.int x5)]) (st' := [.ref q0]) rfl ?_
  obtain ⟨v_6091, e_6092, e⟩ := Option.bind_eq_some_iff.mp e
  refine Rn.hp hT rfl rfl (gI_hp e_6092) ?_
  refine Rn.n hT 3 (pc' := 10) (L' := [some (.ref q0), some (.int x1), some (.int x2), some (.int x3), some (.int x4), some (.int x5)]) (st' := [.int (400 : Int32), .int (v_6091 + (20 : Int32))]) rfl ?_
  by_cases c_6093 : (v_6091 + (20 : Int32)) ≤ (400 : Int32)
  · rw [if_pos c_6093] at e
    refine Rn.bt hT rfl rfl rfl (decide_eq_true c_6093) ?_
    refine Rn.n hT 2 (pc' := 17) (L' := [some (.ref q0), some (.int x1), some (.int x2), some (.int x3), some (.int x4), some (.int x5)]) (st' := [.int x1, .ref q0]) rfl ?_
    obtain ⟨_, e_6095, e⟩ := Option.bind_eq_some_iff.mp e
    obtain ⟨h_6097, e_6094, e⟩ := Option.bind_eq_some_iff.mp e
    refine Rn.call hT rfl rfl rfl (Nat.le_of_ble_eq_true rfl) (rcv_v gX12_put (by omega) e_6095) (rX12_put (by omega) e_6094 ?_)
    show Rn d _ _ 20 [some (.ref q0), some (.int x1), some (.int x2), some (.int x3), some (.int x4), some (.int x5)] [] h_6097 Q
    refine Rn.n hT 2 (pc' := 22) (L' := [some (.ref q0), some (.int x1), some (.int x2), some (.int x3), some (.int x4), some (.int x5)]) (st' := [.int x2, .ref q0]) rfl ?_
    obtain ⟨_, e_6099, e⟩ := Option.bind_eq_some_iff.mp e
    obtain ⟨h_6101, e_6098, e⟩ := Option.bind_eq_some_iff.mp e
    refine Rn.call hT rfl rfl rfl (Nat.le_of_ble_eq_true rfl) (rcv_v gX12_put (by omega) e_6099) (rX12_put (by omega) e_6098 ?_)
    show Rn d _ _ 25 [some (.ref q0), some (.int x1), some (.int x2), some (.int x3), some (.int x4), some (.int x5)] [] h_6101 Q
    refine Rn.n hT 2 (pc' := 27) (L' := [some (.ref q0), some (.int x1), some (.int x2), some (.int x3), some (.int x4), some (.int x5)]) (st' := [.int x3, .ref q0]) rfl ?_
    obtain ⟨_, e_6103, e⟩ := Option.bind_eq_some_iff.mp e
    obtain ⟨h_6105, e_6102, e⟩ := Option.bind_eq_some_iff.mp e
    refine Rn.call hT rfl rfl rfl (Nat.le_of_ble_eq_true rfl) (rcv_v gX12_put (by omega) e_6103) (rX12_put (by omega) e_6102 ?_)
    show Rn d _ _ 30 [some (.ref q0), some (.int x1), some (.int x2), some (.int x3), some (.int x4), some (.int x5)] [] h_6105 Q
    refine Rn.n hT 2 (pc' := 33) (L' := [some (.ref q0), some (.int x1), some (.int x2), some (.int x3), some (.int x4), some (.int x5)]) (st' := [.int x4, .ref q0]) rfl ?_
    obtain ⟨_, e_6107, e⟩ := Option.bind_eq_some_iff.mp e
    obtain ⟨h_6109, e_6106, e⟩ := Option.bind_eq_some_iff.mp e
    refine Rn.call hT rfl rfl rfl (Nat.le_of_ble_eq_true rfl) (rcv_v gX12_put (by omega) e_6107) (rX12_put (by omega) e_6106 ?_)
    show Rn d _ _ 36 [some (.ref q0), some (.int x1), some (.int x2), some (.int x3), some (.int x4), some (.int x5)] [] h_6109 Q
    refine Rn.n hT 2 (pc' := 39) (L' := [some (.ref q0), some (.int x1), some (.int x2), some (.int x3), some (.int x4), some (.int x5)]) (st' := [.int x5, .ref q0]) rfl ?_
    obtain ⟨_, e_6111, e⟩ := Option.bind_eq_some_iff.mp e
    obtain ⟨h_6113, e_6110, e⟩ := Option.bind_eq_some_iff.mp e
    refine Rn.call hT rfl rfl rfl (Nat.le_of_ble_eq_true rfl) (rcv_v gX12_put (by omega) e_6111) (rX12_put (by omega) e_6110 ?_)
    show Rn d _ _ 42 [some (.ref q0), some (.int x1), some (.int x2), some (.int x3), some (.int x4), some (.int x5)] [] h_6113 Q
    refine Rn.n hT 1 (pc' := 43) (L' := [some (.ref q0), some (.int x1), some (.int x2), some (.int x3), some (.int x4), some (.int x5)]) (st' := [.ref q0]) rfl ?_
    obtain ⟨v_6114, e_6115, e⟩ := Option.bind_eq_some_iff.mp e
    refine Rn.hp hT rfl rfl (gI_hp e_6115) ?_
    obtain rfl := Option.some.inj e
    exact Rn.ret hT rfl rfl rfl hq
  · rw [if_neg c_6093] at e
    refine Rn.bf hT rfl rfl rfl (decide_eq_false c_6093) ?_
    refine Rn.n hT 1 (pc' := 14) (L' := [some (.ref q0), some (.int x1), some (.int x2), some (.int x3), some (.int x4), some (.int x5)]) (st' := [.int (-1 : Int32)]) rfl ?_
    obtain rfl := Option.some.inj e
    exact Rn.ret hT rfl rfl rfl hq
set_option maxRecDepth 10000 in
theorem hX12_end : iv_Tb 209 tX12_end := iv_tb_of (m := mX12_end) rfl
set_option maxRecDepth 10000 in
theorem gX12_end : PG.2 209 = some mX12_end := iv_pi_of (t := tX12_end) rfl (by decide)
def fX12_end_b12 (N : Nat) (h : iv_H)   : Option (Int32 × iv_H) := (some ((-1 : Int32), h))
set_option maxRecDepth 10000 in
set_option maxHeartbeats 4000000 in
theorem rX12_end_b12 {d N : Nat} (hd : 0 ≤ d) {h : iv_H}   {r : Int32 × iv_H} {Q : Option Value → iv_H → Prop} (hq : Q (some (.int r.1)) r.2) (e : fX12_end_b12 N h   = some r) : Rn d 209 (some .int) 12 [none, none] [] h Q := by
  have hT := hX12_end
  unfold fX12_end_b12 at e
  refine Rn.n hT 1 (pc' := 13) (L' := [none, none]) (st' := [.int (-1 : Int32)]) rfl ?_
  obtain rfl := Option.some.inj e
  exact Rn.ret hT rfl rfl rfl hq
def fX12_end (N : Nat) (h : iv_H) (q0 : Nat) (x1 : Int32) : Option (Int32 × iv_H) := (if x1 < 0 then (fX12_end_b12 N h) else ((gI h 12 28 q0).bind fun v_6117 => (if x1 ≤ v_6117 then ((pV h 12 28 q0 (.int x1)).bind fun h_6120 => (some (x1, h_6120))) else (fX12_end_b12 N h))))
set_option maxRecDepth 10000 in
set_option maxHeartbeats 4000000 in
theorem rX12_end {d N : Nat} (hd : 1 ≤ d) {h : iv_H} {q0 : Nat} {x1 : Int32} {r : Int32 × iv_H} {Q : Option Value → iv_H → Prop} (e : fX12_end N h q0 x1 = some r) (hq : Q (some (.int r.1)) r.2) : Cl d 209 [.ref q0, .int x1] h Q := by
  obtain ⟨d, rfl⟩ : ∃ k, d = k + 1 := ⟨d - 1, by omega⟩
  have hd : 0 ≤ d := by omega
  have hT := hX12_end
  unfold fX12_end at e
  refine Cl.into (by decide) gX12_end rfl ?_
  show Rn d 209 (some .int) 0 [some (.ref q0), some (.int x1)] [] h Q
  refine Rn.n hT 1 (pc' := 1) (L' := [some (.ref q0), some (.int x1)]) (st' := [.int x1]) rfl ?_
  by_cases c_6116 : x1 < 0
  · rw [if_pos c_6116] at e
    refine Rn.bt hT rfl rfl rfl (decide_eq_true c_6116) ?_
    exact Rn.weak (ll_n (ll_n ll_e)) (rX12_end_b12 hd hq e)
  · rw [if_neg c_6116] at e
    refine Rn.bf hT rfl rfl rfl (decide_eq_false c_6116) ?_
    refine Rn.n hT 2 (pc' := 6) (L' := [some (.ref q0), some (.int x1)]) (st' := [.ref q0, .int x1]) rfl ?_
    obtain ⟨v_6117, e_6118, e⟩ := Option.bind_eq_some_iff.mp e
    refine Rn.hp hT rfl rfl (gI_hp e_6118) ?_
    by_cases c_6119 : x1 ≤ v_6117
    · rw [if_pos c_6119] at e
      refine Rn.bt hT rfl rfl rfl (decide_eq_true c_6119) ?_
      refine Rn.n hT 2 (pc' := 16) (L' := [some (.ref q0), some (.int x1)]) (st' := [.int x1, .ref q0]) rfl ?_
      obtain ⟨h_6120, e_6121, e⟩ := Option.bind_eq_some_iff.mp e
      refine Rn.hp hT rfl rfl (pV_hp rfl e_6121) ?_
      refine Rn.n hT 1 (pc' := 20) (L' := [some (.ref q0), some (.int x1)]) (st' := [.int x1]) rfl ?_
      obtain rfl := Option.some.inj e
      exact Rn.ret hT rfl rfl rfl hq
    · rw [if_neg c_6119] at e
      refine Rn.bf hT rfl rfl rfl (decide_eq_false c_6119) ?_
      exact Rn.weak (ll_n (ll_n ll_e)) (rX12_end_b12 hd hq e)
set_option maxRecDepth 10000 in
theorem hX12_wordOf : iv_Tb 210 tX12_wordOf := iv_tb_of (m := mX12_wordOf) rfl
set_option maxRecDepth 10000 in
theorem gX12_wordOf : PG.2 210 = some mX12_wordOf := iv_pi_of (t := tX12_wordOf) rfl (by decide)
def fX12_wordOf (N : Nat) (h : iv_H) (x0 : Int32) : Option (Nat) := (if x0 = (0 : Int32) then (some 1000015) else (if x0 = (1 : Int32) then (some 1000016) else (if x0 = (2 : Int32) then (some 1000017) else (if x0 = (3 : Int32) then (some 1000018) else (if x0 = (4 : Int32) then (some 1000019) else (if x0 = (5 : Int32) then (some 1000020) else (if x0 = (6 : Int32) then (some 1000021) else (if x0 = (7 : Int32) then (some 1000022) else (if x0 = (8 : Int32) then (some 1000023) else (if x0 = (9 : Int32) then (some 1000024) else (if x0 = (10 : Int32) then (some 1000025) else (if x0 = (11 : Int32) then (some 1000026) else (some 1000027)))))))))))))
set_option maxRecDepth 10000 in
set_option maxHeartbeats 4000000 in
theorem rX12_wordOf {d N : Nat} (hd : 1 ≤ d) {h : iv_H} {x0 : Int32} {r : Nat} {Q : Option Value → iv_H → Prop} (e : fX12_wordOf N h x0 = some r) (hq : Q (some (.ref r)) h) : Cl d 210 [.int x0] h Q := by
  obtain ⟨d, rfl⟩ : ∃ k, d = k + 1 := ⟨d - 1, by omega⟩
  have hd : 0 ≤ d := by omega
  have hT := hX12_wordOf
  unfold fX12_wordOf at e
  refine Cl.into (by decide) gX12_wordOf rfl ?_
  show Rn d 210 (some (.object "java/lang/String")) 0 [some (.int x0)] [] h Q
  refine Rn.n hT 1 (pc' := 1) (L' := [some (.int x0)]) (st' := [.int x0]) rfl ?_
  by_cases c_6122 : x0 = (0 : Int32)
  · rw [if_pos c_6122] at e
    refine Rn.sw2 hT rfl rfl rfl (if_pos c_6122) ?_
    refine Rn.n hT 1 (pc' := 66) (L' := [some (.int x0)]) (st' := [.ref 1000015]) rfl ?_
    obtain rfl := Option.some.inj e
    exact Rn.ret hT rfl rfl rfl hq
  · rw [if_neg c_6122] at e
    by_cases c_6123 : x0 = (1 : Int32)
    · rw [if_pos c_6123] at e
      refine Rn.sw2 hT rfl rfl rfl ((if_neg c_6122).trans (if_pos c_6123)) ?_
      refine Rn.n hT 1 (pc' := 69) (L' := [some (.int x0)]) (st' := [.ref 1000016]) rfl ?_
      obtain rfl := Option.some.inj e
      exact Rn.ret hT rfl rfl rfl hq
    · rw [if_neg c_6123] at e
      by_cases c_6124 : x0 = (2 : Int32)
      · rw [if_pos c_6124] at e
        refine Rn.sw2 hT rfl rfl rfl ((if_neg c_6122).trans ((if_neg c_6123).trans (if_pos c_6124))) ?_
        refine Rn.n hT 1 (pc' := 72) (L' := [some (.int x0)]) (st' := [.ref 1000017]) rfl ?_
        obtain rfl := Option.some.inj e
        exact Rn.ret hT rfl rfl rfl hq
      · rw [if_neg c_6124] at e
        by_cases c_6125 : x0 = (3 : Int32)
        · rw [if_pos c_6125] at e
          refine Rn.sw2 hT rfl rfl rfl ((if_neg c_6122).trans ((if_neg c_6123).trans ((if_neg c_6124).trans (if_pos c_6125)))) ?_
          refine Rn.n hT 1 (pc' := 75) (L' := [some (.int x0)]) (st' := [.ref 1000018]) rfl ?_
          obtain rfl := Option.some.inj e
          exact Rn.ret hT rfl rfl rfl hq
        · rw [if_neg c_6125] at e
          by_cases c_6126 : x0 = (4 : Int32)
          · rw [if_pos c_6126] at e
            refine Rn.sw2 hT rfl rfl rfl ((if_neg c_6122).trans ((if_neg c_6123).trans ((if_neg c_6124).trans ((if_neg c_6125).trans (if_pos c_6126))))) ?_
            refine Rn.n hT 1 (pc' := 78) (L' := [some (.int x0)]) (st' := [.ref 1000019]) rfl ?_
            obtain rfl := Option.some.inj e
            exact Rn.ret hT rfl rfl rfl hq
          · rw [if_neg c_6126] at e
            by_cases c_6127 : x0 = (5 : Int32)
            · rw [if_pos c_6127] at e
              refine Rn.sw2 hT rfl rfl rfl ((if_neg c_6122).trans ((if_neg c_6123).trans ((if_neg c_6124).trans ((if_neg c_6125).trans ((if_neg c_6126).trans (if_pos c_6127)))))) ?_
              refine Rn.n hT 1 (pc' := 81) (L' := [some (.int x0)]) (st' := [.ref 1000020]) rfl ?_
              obtain rfl := Option.some.inj e
              exact Rn.ret hT rfl rfl rfl hq
            · rw [if_neg c_6127] at e
              by_cases c_6128 : x0 = (6 : Int32)
              · rw [if_pos c_6128] at e
                refine Rn.sw2 hT rfl rfl rfl ((if_neg c_6122).trans ((if_neg c_6123).trans ((if_neg c_6124).trans ((if_neg c_6125).trans ((if_neg c_6126).trans ((if_neg c_6127).trans (if_pos c_6128))))))) ?_
                refine Rn.n hT 1 (pc' := 85) (L' := [some (.int x0)]) (st' := [.ref 1000021]) rfl ?_
                obtain rfl := Option.some.inj e
                exact Rn.ret hT rfl rfl rfl hq
              · rw [if_neg c_6128] at e
                by_cases c_6129 : x0 = (7 : Int32)
                · rw [if_pos c_6129] at e
                  refine Rn.sw2 hT rfl rfl rfl ((if_neg c_6122).trans ((if_neg c_6123).trans ((if_neg c_6124).trans ((if_neg c_6125).trans ((if_neg c_6126).trans ((if_neg c_6127).trans ((if_neg c_6128).trans (if_pos c_6129)))))))) ?_
                  refine Rn.n hT 1 (pc' := 89) (L' := [some (.int x0)]) (st' := [.ref 1000022]) rfl ?_
                  obtain rfl := Option.some.inj e
                  exact Rn.ret hT rfl rfl rfl hq
                · rw [if_neg c_6129] at e
                  by_cases c_6130 : x0 = (8 : Int32)
                  · rw [if_pos c_6130] at e
                    refine Rn.sw2 hT rfl rfl rfl ((if_neg c_6122).trans ((if_neg c_6123).trans ((if_neg c_6124).trans ((if_neg c_6125).trans ((if_neg c_6126).trans ((if_neg c_6127).trans ((if_neg c_6128).trans ((if_neg c_6129).trans (if_pos c_6130))))))))) ?_
                    refine Rn.n hT 1 (pc' := 93) (L' := [some (.int x0)]) (st' := [.ref 1000023]) rfl ?_
                    obtain rfl := Option.some.inj e
                    exact Rn.ret hT rfl rfl rfl hq
                  · rw [if_neg c_6130] at e
                    by_cases c_6131 : x0 = (9 : Int32)
                    · rw [if_pos c_6131] at e
                      refine Rn.sw2 hT rfl rfl rfl ((if_neg c_6122).trans ((if_neg c_6123).trans ((if_neg c_6124).trans ((if_neg c_6125).trans ((if_neg c_6126).trans ((if_neg c_6127).trans ((if_neg c_6128).trans ((if_neg c_6129).trans ((if_neg c_6130).trans (if_pos c_6131)))))))))) ?_
                      refine Rn.n hT 1 (pc' := 97) (L' := [some (.int x0)]) (st' := [.ref 1000024]) rfl ?_
                      obtain rfl := Option.some.inj e
                      exact Rn.ret hT rfl rfl rfl hq
                    · rw [if_neg c_6131] at e
                      by_cases c_6132 : x0 = (10 : Int32)
                      · rw [if_pos c_6132] at e
                        refine Rn.sw2 hT rfl rfl rfl ((if_neg c_6122).trans ((if_neg c_6123).trans ((if_neg c_6124).trans ((if_neg c_6125).trans ((if_neg c_6126).trans ((if_neg c_6127).trans ((if_neg c_6128).trans ((if_neg c_6129).trans ((if_neg c_6130).trans ((if_neg c_6131).trans (if_pos c_6132))))))))))) ?_
                        refine Rn.n hT 1 (pc' := 101) (L' := [some (.int x0)]) (st' := [.ref 1000025]) rfl ?_
                        obtain rfl := Option.some.inj e
                        exact Rn.ret hT rfl rfl rfl hq
                      · rw [if_neg c_6132] at e
                        by_cases c_6133 : x0 = (11 : Int32)
                        · rw [if_pos c_6133] at e
                          refine Rn.sw2 hT rfl rfl rfl ((if_neg c_6122).trans ((if_neg c_6123).trans ((if_neg c_6124).trans ((if_neg c_6125).trans ((if_neg c_6126).trans ((if_neg c_6127).trans ((if_neg c_6128).trans ((if_neg c_6129).trans ((if_neg c_6130).trans ((if_neg c_6131).trans ((if_neg c_6132).trans (if_pos c_6133)))))))))))) ?_
                          refine Rn.n hT 1 (pc' := 105) (L' := [some (.int x0)]) (st' := [.ref 1000026]) rfl ?_
                          obtain rfl := Option.some.inj e
                          exact Rn.ret hT rfl rfl rfl hq
                        · rw [if_neg c_6133] at e
                          refine Rn.sw2 hT rfl rfl rfl ((if_neg c_6122).trans ((if_neg c_6123).trans ((if_neg c_6124).trans ((if_neg c_6125).trans ((if_neg c_6126).trans ((if_neg c_6127).trans ((if_neg c_6128).trans ((if_neg c_6129).trans ((if_neg c_6130).trans ((if_neg c_6131).trans ((if_neg c_6132).trans ((if_neg c_6133).trans rfl)))))))))))) ?_
                          refine Rn.n hT 1 (pc' := 109) (L' := [some (.int x0)]) (st' := [.ref 1000027]) rfl ?_
                          obtain rfl := Option.some.inj e
                          exact Rn.ret hT rfl rfl rfl hq
set_option maxRecDepth 10000 in
theorem hX12_fails : iv_Tb 211 tX12_fails := iv_tb_of (m := mX12_fails) rfl
set_option maxRecDepth 10000 in
theorem gX12_fails : PG.2 211 = some mX12_fails := iv_pi_of (t := tX12_fails) rfl (by decide)
def fX12_fails_b23 (N : Nat) (h : iv_H)  (s0 : Int32) (sq1 : Nat) : Option (iv_H) := ((pV h 12 30 sq1 (.int s0)).bind fun h_6139 => some h_6139)
set_option maxRecDepth 10000 in
set_option maxHeartbeats 4000000 in
theorem rX12_fails_b23 {d N : Nat} (hd : 0 ≤ d) {h : iv_H}  {s0 : Int32} {sq1 : Nat} {r : iv_H} {Q : Option Value → iv_H → Prop} (hq : Q none r) (e : fX12_fails_b23 N h  s0 sq1 = some r) : Rn d 211 none 23 [none, none, none] [.int s0, .ref sq1] h Q := by
  have hT := hX12_fails
  unfold fX12_fails_b23 at e
  obtain ⟨h_6139, e_6140, e⟩ := Option.bind_eq_some_iff.mp e
  refine Rn.hp hT rfl rfl (pV_hp rfl e_6140) ?_
  obtain rfl := Option.some.inj e
  exact Rn.ret hT rfl rfl rfl hq
def fX12_fails (N : Nat) (h : iv_H) (q0 : Nat) (x1 : Int32) (x2 : Int32) : Option (iv_H) := ((gI h 12 30 q0).bind fun v_6134 => (if v_6134 = 0 then (fX12_fails_b23 N h (((1 : Int32) + ((8 : Int32) * x2)) + x1) q0) else ((gI h 12 30 q0).bind fun v_6137 => (fX12_fails_b23 N h v_6137 q0))))
set_option maxRecDepth 10000 in
set_option maxHeartbeats 4000000 in
theorem rX12_fails {d N : Nat} (hd : 1 ≤ d) {h : iv_H} {q0 : Nat} {x1 : Int32} {x2 : Int32} {r : iv_H} {Q : Option Value → iv_H → Prop} (e : fX12_fails N h q0 x1 x2 = some r) (hq : Q none r) : Cl d 211 [.ref q0, .int x1, .int x2] h Q := by
  obtain ⟨d, rfl⟩ : ∃ k, d = k + 1 := ⟨d - 1, by omega⟩
  have hd : 0 ≤ d := by omega
  have hT := hX12_fails
  unfold fX12_fails at e
  refine Cl.into (by decide) gX12_fails rfl ?_
  show Rn d 211 none 0 [some (.ref q0), some (.int x1), some (.int x2)] [] h Q
  refine Rn.n hT 2 (pc' := 2) (L' := [some (.ref q0), some (.int x1), some (.int x2)]) (st' := [.ref q0, .ref q0]) rfl ?_
  obtain ⟨v_6134, e_6135, e⟩ := Option.bind_eq_some_iff.mp e
  refine Rn.hp hT rfl rfl (gI_hp e_6135) ?_
  by_cases c_6136 : v_6134 = 0
  · rw [if_pos c_6136] at e
    refine Rn.bf hT rfl rfl rfl (decide_eq_false (fun z => z c_6136)) ?_
    refine Rn.n hT 8 (pc' := 23) (L' := [some (.ref q0), some (.int x1), some (.int x2)]) (st' := [.int (((1 : Int32) + ((8 : Int32) * x2)) + x1), .ref q0]) rfl ?_
    exact Rn.weak (ll_n (ll_n (ll_n ll_e))) (rX12_fails_b23 hd hq e)
  · rw [if_neg c_6136] at e
    refine Rn.bt hT rfl rfl rfl (decide_eq_true c_6136) ?_
    refine Rn.n hT 1 (pc' := 20) (L' := [some (.ref q0), some (.int x1), some (.int x2)]) (st' := [.ref q0, .ref q0]) rfl ?_
    obtain ⟨v_6137, e_6138, e⟩ := Option.bind_eq_some_iff.mp e
    refine Rn.hp hT rfl rfl (gI_hp e_6138) ?_
    exact Rn.weak (ll_n (ll_n (ll_n ll_e))) (rX12_fails_b23 hd hq e)
set_option maxRecDepth 10000 in
theorem hX12_sign : iv_Tb 212 tX12_sign := iv_tb_of (m := mX12_sign) rfl
set_option maxRecDepth 10000 in
theorem gX12_sign : PG.2 212 = some mX12_sign := iv_pi_of (t := tX12_sign) rfl (by decide)
def fX12_sign_b28 (N : Nat) (h : iv_H)  (s0 : Int32) : Option (Int32) := (some s0)
set_option maxRecDepth 10000 in
set_option maxHeartbeats 4000000 in
theorem rX12_sign_b28 {d N : Nat} (hd : 0 ≤ d) {h : iv_H}  {s0 : Int32} {r : Int32} {Q : Option Value → iv_H → Prop} (hq : Q (some (.int r)) h) (e : fX12_sign_b28 N h  s0 = some r) : Rn d 212 (some .int) 28 [none] [.int s0] h Q := by
  have hT := hX12_sign
  unfold fX12_sign_b28 at e
  obtain rfl := Option.some.inj e
  exact Rn.ret hT rfl rfl rfl hq
def fX12_sign (N : Nat) (h : iv_H) (q0 : Nat) : Option (Int32) := ((gI h 12 29 q0).bind fun v_6141 => ((gI h 12 28 q0).bind fun v_6143 => (if v_6143 ≤ v_6141 then (fX12_sign_b28 N h (-1 : Int32)) else ((gR h 12 39 q0).bind fun v_6146 => ((gI h 12 29 q0).bind fun v_6148 => ((aB h v_6146 v_6148).bind fun v_6150 => (fX12_sign_b28 N h (v_6150 &&& (255 : Int32)))))))))
set_option maxRecDepth 10000 in
set_option maxHeartbeats 4000000 in
theorem rX12_sign {d N : Nat} (hd : 1 ≤ d) {h : iv_H} {q0 : Nat} {r : Int32} {Q : Option Value → iv_H → Prop} (e : fX12_sign N h q0 = some r) (hq : Q (some (.int r)) h) : Cl d 212 [.ref q0] h Q := by
  obtain ⟨d, rfl⟩ : ∃ k, d = k + 1 := ⟨d - 1, by omega⟩
  have hd : 0 ≤ d := by omega
  have hT := hX12_sign
  unfold fX12_sign at e
  refine Cl.into (by decide) gX12_sign rfl ?_
  show Rn d 212 (some .int) 0 [some (.ref q0)] [] h Q
  refine Rn.n hT 1 (pc' := 1) (L' := [some (.ref q0)]) (st' := [.ref q0]) rfl ?_
  obtain ⟨v_6141, e_6142, e⟩ := Option.bind_eq_some_iff.mp e
  refine Rn.hp hT rfl rfl (gI_hp e_6142) ?_
  refine Rn.n hT 1 (pc' := 5) (L' := [some (.ref q0)]) (st' := [.ref q0, .int v_6141]) rfl ?_
  obtain ⟨v_6143, e_6144, e⟩ := Option.bind_eq_some_iff.mp e
  refine Rn.hp hT rfl rfl (gI_hp e_6144) ?_
  by_cases c_6145 : v_6143 ≤ v_6141
  · rw [if_pos c_6145] at e
    refine Rn.bt hT rfl rfl rfl (decide_eq_true c_6145) ?_
    refine Rn.n hT 1 (pc' := 28) (L' := [some (.ref q0)]) (st' := [.int (-1 : Int32)]) rfl ?_
    exact Rn.weak (ll_n ll_e) (rX12_sign_b28 hd hq e)
  · rw [if_neg c_6145] at e
    refine Rn.bf hT rfl rfl rfl (decide_eq_false c_6145) ?_
    refine Rn.n hT 1 (pc' := 12) (L' := [some (.ref q0)]) (st' := [.ref q0]) rfl ?_
    obtain ⟨v_6146, e_6147, e⟩ := Option.bind_eq_some_iff.mp e
    refine Rn.hp hT rfl rfl (gR_hp e_6147) ?_
    refine Rn.n hT 1 (pc' := 16) (L' := [some (.ref q0)]) (st' := [.ref q0, .ref v_6146]) rfl ?_
    obtain ⟨v_6148, e_6149, e⟩ := Option.bind_eq_some_iff.mp e
    refine Rn.hp hT rfl rfl (gI_hp e_6149) ?_
    obtain ⟨v_6150, e_6151, e⟩ := Option.bind_eq_some_iff.mp e
    refine Rn.hp hT rfl rfl (aB_hp e_6151) ?_
    refine Rn.n hT 3 (pc' := 28) (L' := [some (.ref q0)]) (st' := [.int (v_6150 &&& (255 : Int32))]) rfl ?_
    exact Rn.weak (ll_n ll_e) (rX12_sign_b28 hd hq e)
set_option maxRecDepth 10000 in
theorem hX12_blanks : iv_Tb 213 tX12_blanks := iv_tb_of (m := mX12_blanks) rfl
set_option maxRecDepth 10000 in
theorem gX12_blanks : PG.2 213 = some mX12_blanks := iv_pi_of (t := tX12_blanks) rfl (by decide)
def fX12_blanks_l0 (N : Nat) (q0 : Nat) (kx : iv_H → Option (iv_H)) : Nat → iv_H → Option (iv_H)
  | 0, _ => none
  | n + 1, h => ((cko h q0 12).bind fun _ => (fX12_sign N h q0).bind fun v_6155 => (if v_6155 = (32 : Int32) then ((gI h 12 29 q0).bind fun v_6157 => ((pV h 12 29 q0 (.int (v_6157 + (1 : Int32)))).bind fun h_6159 => (fX12_blanks_l0 N q0 kx n h_6159))) else (kx h)))
set_option maxRecDepth 10000 in
set_option maxHeartbeats 4000000 in
theorem rX12_blanks_l0 {d N : Nat} (hd : 1 ≤ d) {q0 : Nat} {kx : iv_H → Option (iv_H)} {r : iv_H} {Q : Option Value → iv_H → Prop} (hk : ∀ (h : iv_H), kx h = some r → Rn d 213 none 22 [none] [] h Q) (hq : Q none r) : ∀ (n : Nat) (h : iv_H), fX12_blanks_l0 N q0 kx n h = some r → Rn d 213 none 0 [some (.ref q0)] [] h Q := by
  have hT := hX12_blanks
  intro n
  induction n with
  | zero =>
    intro h e
    rw [fX12_blanks_l0] at e
    cases e
  | succ n ih =>
    intro h e
    rw [fX12_blanks_l0] at e
    refine Rn.n hT 1 (pc' := 1) (L' := [some (.ref q0)]) (st' := [.ref q0]) rfl ?_
    obtain ⟨_, e_6154, e⟩ := Option.bind_eq_some_iff.mp e
    obtain ⟨v_6155, e_6153, e⟩ := Option.bind_eq_some_iff.mp e
    refine Rn.call hT rfl rfl rfl (Nat.le_of_ble_eq_true rfl) (rcv_v gX12_sign (by omega) e_6154) (rX12_sign (by omega) e_6153 ?_)
    show Rn d _ _ 4 [some (.ref q0)] [.int v_6155] h Q
    refine Rn.n hT 1 (pc' := 6) (L' := [some (.ref q0)]) (st' := [.int (32 : Int32), .int v_6155]) rfl ?_
    by_cases c_6156 : v_6155 = (32 : Int32)
    · rw [if_pos c_6156] at e
      refine Rn.bf hT rfl rfl rfl (decide_eq_false (fun z => z c_6156)) ?_
      refine Rn.n hT 2 (pc' := 11) (L' := [some (.ref q0)]) (st' := [.ref q0, .ref q0]) rfl ?_
      obtain ⟨v_6157, e_6158, e⟩ := Option.bind_eq_some_iff.mp e
      refine Rn.hp hT rfl rfl (gI_hp e_6158) ?_
      refine Rn.n hT 2 (pc' := 16) (L' := [some (.ref q0)]) (st' := [.int (v_6157 + (1 : Int32)), .ref q0]) rfl ?_
      obtain ⟨h_6159, e_6160, e⟩ := Option.bind_eq_some_iff.mp e
      refine Rn.hp hT rfl rfl (pV_hp rfl e_6160) ?_
      refine Rn.n hT 1 (pc' := 0) (L' := [some (.ref q0)]) (st' := []) rfl ?_
      exact Rn.weak (ll_s ll_e) (ih h_6159 e)
    · rw [if_neg c_6156] at e
      refine Rn.bt hT rfl rfl rfl (decide_eq_true c_6156) ?_
      exact Rn.weak (ll_n ll_e) (hk h e)
def fX12_blanks (N : Nat) (h : iv_H) (q0 : Nat) : Option (iv_H) := (fX12_blanks_l0 N q0 (fun (h_6152 : iv_H) => some h_6152) N h)
set_option maxRecDepth 10000 in
set_option maxHeartbeats 4000000 in
theorem rX12_blanks {d N : Nat} (hd : 2 ≤ d) {h : iv_H} {q0 : Nat} {r : iv_H} {Q : Option Value → iv_H → Prop} (e : fX12_blanks N h q0 = some r) (hq : Q none r) : Cl d 213 [.ref q0] h Q := by
  obtain ⟨d, rfl⟩ : ∃ k, d = k + 1 := ⟨d - 1, by omega⟩
  have hd : 1 ≤ d := by omega
  have hT := hX12_blanks
  unfold fX12_blanks at e
  refine Cl.into (by decide) gX12_blanks rfl ?_
  show Rn d 213 none 0 [some (.ref q0)] [] h Q
  refine Rn.weak (ll_s ll_e) (rX12_blanks_l0 hd (fun h_6152 e => ?_) hq N h e)
  try dsimp only at e
  obtain rfl := Option.some.inj e
  exact Rn.ret hT rfl rfl rfl hq
set_option maxRecDepth 10000 in
theorem hX12_isDigit : iv_Tb 214 tX12_isDigit := iv_tb_of (m := mX12_isDigit) rfl
set_option maxRecDepth 10000 in
theorem gX12_isDigit : PG.2 214 = some mX12_isDigit := iv_pi_of (t := tX12_isDigit) rfl (by decide)
def fX12_isDigit (N : Nat) (h : iv_H) (q0 : Nat) : Option (Int32) := ((cko h q0 12).bind fun _ => (fX12_sign N h q0).bind fun v_6163 => ((fX12_in N h ((v_6163).toInt64) (48 : Int64) (57 : Int64)).bind fun v_6165 => (if v_6165 = 0 ∨ v_6165 = 1 then some v_6165 else none)))
set_option maxRecDepth 10000 in
set_option maxHeartbeats 4000000 in
theorem rX12_isDigit {d N : Nat} (hd : 2 ≤ d) {h : iv_H} {q0 : Nat} {r : Int32} {Q : Option Value → iv_H → Prop} (e : fX12_isDigit N h q0 = some r) (hq : Q (some (.int r)) h) : Cl d 214 [.ref q0] h Q := by
  obtain ⟨d, rfl⟩ : ∃ k, d = k + 1 := ⟨d - 1, by omega⟩
  have hd : 1 ≤ d := by omega
  have hT := hX12_isDigit
  unfold fX12_isDigit at e
  refine Cl.into (by decide) gX12_isDigit rfl ?_
  show Rn d 214 (some .boolean) 0 [some (.ref q0)] [] h Q
  refine Rn.n hT 1 (pc' := 1) (L' := [some (.ref q0)]) (st' := [.ref q0]) rfl ?_
  obtain ⟨_, e_6162, e⟩ := Option.bind_eq_some_iff.mp e
  obtain ⟨v_6163, e_6161, e⟩ := Option.bind_eq_some_iff.mp e
  refine Rn.call hT rfl rfl rfl (Nat.le_of_ble_eq_true rfl) (rcv_v gX12_sign (by omega) e_6162) (rX12_sign (by omega) e_6161 ?_)
  show Rn d _ _ 4 [some (.ref q0)] [.int v_6163] h Q
  refine Rn.n hT 3 (pc' := 11) (L' := [some (.ref q0)]) (st' := [.long (57 : Int64), .long (48 : Int64), .long ((v_6163).toInt64)]) rfl ?_
  obtain ⟨v_6165, e_6164, e⟩ := Option.bind_eq_some_iff.mp e
  refine Rn.call hT rfl rfl rfl (Nat.le_of_ble_eq_true rfl) rfl (rX12_in (by omega) e_6164 ?_)
  show Rn d _ _ 14 [some (.ref q0)] [.int v_6165] h Q
  by_cases c_6166 : v_6165 = 0 ∨ v_6165 = 1
  · rw [if_pos c_6166] at e
    obtain rfl := Option.some.inj e
    exact Rn.ret hT rfl rfl (if_pos c_6166) hq
  · rw [if_neg c_6166] at e
    cases e
set_option maxRecDepth 10000 in
theorem hX12_stood : iv_Tb 215 tX12_stood := iv_tb_of (m := mX12_stood) rfl
set_option maxRecDepth 10000 in
theorem gX12_stood : PG.2 215 = some mX12_stood := iv_pi_of (t := tX12_stood) rfl (by decide)
def fX12_stood_l5 (N : Nat) (h : iv_H) (q0 : Nat) (q1 : Nat) (kx : Int32 → Option (Int32)) : Nat → Int32 → Option (Int32)
  | 0, _ => none
  | n + 1, x2 => ((gI h 12 28 q0).bind fun v_6170 => (if v_6170 ≤ x2 then (kx x2) else ((gR h 12 39 q0).bind fun v_6173 => ((aB h v_6173 x2).bind fun v_6175 => (if v_6175 < (97 : Int32) then (kx x2) else ((gR h 12 39 q0).bind fun v_6178 => ((aB h v_6178 x2).bind fun v_6180 => (if (122 : Int32) < v_6180 then (kx x2) else (fX12_stood_l5 N h q0 q1 kx n (x2 + (1 : Int32)))))))))))
set_option maxRecDepth 10000 in
set_option maxHeartbeats 4000000 in
theorem rX12_stood_l5 {d N : Nat} (hd : 10 ≤ d) {h : iv_H} {q0 : Nat} {q1 : Nat} {kx : Int32 → Option (Int32)} {r : Int32} {Q : Option Value → iv_H → Prop} (hk : ∀ (x2 : Int32), kx x2 = some r → Rn d 215 (some .boolean) 41 [some (.ref q0), some (.ref q1), some (.int x2), none, none] [] h Q) (hq : Q (some (.int r)) h) : ∀ (n : Nat) (x2 : Int32), fX12_stood_l5 N h q0 q1 kx n x2 = some r → Rn d 215 (some .boolean) 5 [some (.ref q0), some (.ref q1), some (.int x2), none, none] [] h Q := by
  have hT := hX12_stood
  intro n
  induction n with
  | zero =>
    intro x2 e
    rw [fX12_stood_l5] at e
    cases e
  | succ n ih =>
    intro x2 e
    rw [fX12_stood_l5] at e
    refine Rn.n hT 2 (pc' := 7) (L' := [some (.ref q0), some (.ref q1), some (.int x2), none, none]) (st' := [.ref q0, .int x2]) rfl ?_
    obtain ⟨v_6170, e_6171, e⟩ := Option.bind_eq_some_iff.mp e
    refine Rn.hp hT rfl rfl (gI_hp e_6171) ?_
    by_cases c_6172 : v_6170 ≤ x2
    · rw [if_pos c_6172] at e
      refine Rn.bt hT rfl rfl rfl (decide_eq_true c_6172) ?_
      exact Rn.weak (ll_s (ll_s (ll_s (ll_n (ll_n ll_e))))) (hk x2 e)
    · rw [if_neg c_6172] at e
      refine Rn.bf hT rfl rfl rfl (decide_eq_false c_6172) ?_
      refine Rn.n hT 1 (pc' := 14) (L' := [some (.ref q0), some (.ref q1), some (.int x2), none, none]) (st' := [.ref q0]) rfl ?_
      obtain ⟨v_6173, e_6174, e⟩ := Option.bind_eq_some_iff.mp e
      refine Rn.hp hT rfl rfl (gR_hp e_6174) ?_
      refine Rn.n hT 1 (pc' := 18) (L' := [some (.ref q0), some (.ref q1), some (.int x2), none, none]) (st' := [.int x2, .ref v_6173]) rfl ?_
      obtain ⟨v_6175, e_6176, e⟩ := Option.bind_eq_some_iff.mp e
      refine Rn.hp hT rfl rfl (aB_hp e_6176) ?_
      refine Rn.n hT 1 (pc' := 21) (L' := [some (.ref q0), some (.ref q1), some (.int x2), none, none]) (st' := [.int (97 : Int32), .int v_6175]) rfl ?_
      by_cases c_6177 : v_6175 < (97 : Int32)
      · rw [if_pos c_6177] at e
        refine Rn.bt hT rfl rfl rfl (decide_eq_true c_6177) ?_
        exact Rn.weak (ll_s (ll_s (ll_s (ll_n (ll_n ll_e))))) (hk x2 e)
      · rw [if_neg c_6177] at e
        refine Rn.bf hT rfl rfl rfl (decide_eq_false c_6177) ?_
        refine Rn.n hT 1 (pc' := 25) (L' := [some (.ref q0), some (.ref q1), some (.int x2), none, none]) (st' := [.ref q0]) rfl ?_
        obtain ⟨v_6178, e_6179, e⟩ := Option.bind_eq_some_iff.mp e
        refine Rn.hp hT rfl rfl (gR_hp e_6179) ?_
        refine Rn.n hT 1 (pc' := 29) (L' := [some (.ref q0), some (.ref q1), some (.int x2), none, none]) (st' := [.int x2, .ref v_6178]) rfl ?_
        obtain ⟨v_6180, e_6181, e⟩ := Option.bind_eq_some_iff.mp e
        refine Rn.hp hT rfl rfl (aB_hp e_6181) ?_
        refine Rn.n hT 1 (pc' := 32) (L' := [some (.ref q0), some (.ref q1), some (.int x2), none, none]) (st' := [.int (122 : Int32), .int v_6180]) rfl ?_
        by_cases c_6182 : (122 : Int32) < v_6180
        · rw [if_pos c_6182] at e
          refine Rn.bt hT rfl rfl rfl (decide_eq_true c_6182) ?_
          exact Rn.weak (ll_s (ll_s (ll_s (ll_n (ll_n ll_e))))) (hk x2 e)
        · rw [if_neg c_6182] at e
          refine Rn.bf hT rfl rfl rfl (decide_eq_false c_6182) ?_
          refine Rn.n hT 2 (pc' := 5) (L' := [some (.ref q0), some (.ref q1), some (.int (x2 + (1 : Int32))), none, none]) (st' := []) rfl ?_
          exact Rn.weak (ll_s (ll_s (ll_s (ll_n (ll_n ll_e))))) (ih (x2 + (1 : Int32)) e)
def fX12_stood_b102 (N : Nat) (h : iv_H) (q0 : Nat) (q1 : Nat) (x4 : Int32) (s0 : Int32) (kb : Int32 → Int32 → Option (Int32)) (kx : Int32 → Option (Int32)) : Option (Int32) := (kb s0 (x4 + (1 : Int32)))
set_option maxRecDepth 10000 in
set_option maxHeartbeats 4000000 in
theorem rX12_stood_b102 {d N : Nat} (hd : 10 ≤ d) {h : iv_H} {q0 : Nat} {q1 : Nat} {x4 : Int32} {s0 : Int32} {kb : Int32 → Int32 → Option (Int32)} {kx : Int32 → Option (Int32)} {r : Int32} {Q : Option Value → iv_H → Prop} (hb : ∀ (w3 : Int32) (w4 : Int32), kb w3 w4 = some r → Rn d 215 (some .boolean) 63 [some (.ref q0), some (.ref q1), none, some (.int w3), some (.int w4)] [] h Q) (hk : ∀ (w3 : Int32), kx w3 = some r → Rn d 215 (some .boolean) 109 [none, none, none, some (.int w3), none] [] h Q) (hq : Q (some (.int r)) h) (e : fX12_stood_b102 N h q0 q1 x4 s0 kb kx = some r) : Rn d 215 (some .boolean) 102 [some (.ref q0), some (.ref q1), none, none, some (.int x4)] [.int s0] h Q := by
  have hT := hX12_stood
  unfold fX12_stood_b102 at e
  refine Rn.n hT 3 (pc' := 63) (L' := [some (.ref q0), some (.ref q1), none, some (.int s0), some (.int (x4 + (1 : Int32)))]) (st' := []) rfl ?_
  exact Rn.weak (ll_s (ll_s (ll_n (ll_s (ll_s ll_e))))) (hb s0 (x4 + (1 : Int32)) e)
def fX12_stood_l63 (N : Nat) (h : iv_H) (q0 : Nat) (q1 : Nat) (kx : Int32 → Option (Int32)) : Nat → Int32 → Int32 → Option (Int32)
  | 0, _, _ => none
  | n + 1, x3, x4 => ((sL h q1).bind fun v_6190 => (if v_6190 ≤ x4 then (kx x3) else (if x3 = 0 then (kx x3) else ((gR h 12 39 q0).bind fun v_6193 => ((gI h 12 29 q0).bind fun v_6195 => ((aB h v_6193 (v_6195 + x4)).bind fun v_6197 => ((sA h q1 x4).bind fun v_6200 => (if v_6197 = v_6200 then (fX12_stood_b102 N h q0 q1 x4 (1 : Int32) (fX12_stood_l63 N h q0 q1 kx n) kx) else (fX12_stood_b102 N h q0 q1 x4 (0 : Int32) (fX12_stood_l63 N h q0 q1 kx n) kx)))))))))
set_option maxRecDepth 10000 in
set_option maxHeartbeats 4000000 in
theorem rX12_stood_l63 {d N : Nat} (hd : 10 ≤ d) {h : iv_H} {q0 : Nat} {q1 : Nat} {kx : Int32 → Option (Int32)} {r : Int32} {Q : Option Value → iv_H → Prop} (hk : ∀ (x3 : Int32), kx x3 = some r → Rn d 215 (some .boolean) 109 [none, none, none, some (.int x3), none] [] h Q) (hq : Q (some (.int r)) h) : ∀ (n : Nat) (x3 : Int32) (x4 : Int32), fX12_stood_l63 N h q0 q1 kx n x3 x4 = some r → Rn d 215 (some .boolean) 63 [some (.ref q0), some (.ref q1), none, some (.int x3), some (.int x4)] [] h Q := by
  have hT := hX12_stood
  intro n
  induction n with
  | zero =>
    intro x3 x4 e
    rw [fX12_stood_l63] at e
    cases e
  | succ n ih =>
    intro x3 x4 e
    rw [fX12_stood_l63] at e
    refine Rn.n hT 2 (pc' := 66) (L' := [some (.ref q0), some (.ref q1), none, some (.int x3), some (.int x4)]) (st' := [.ref q1, .int x4]) rfl ?_
    obtain ⟨v_6190, e_6189, e⟩ := Option.bind_eq_some_iff.mp e
    refine Rn.call hT rfl rfl rfl (Nat.le_of_ble_eq_true rfl) rfl (sL_cl (by omega) e_6189 ?_)
    show Rn d _ _ 69 [some (.ref q0), some (.ref q1), none, some (.int x3), some (.int x4)] [.int v_6190, .int x4] h Q
    by_cases c_6191 : v_6190 ≤ x4
    · rw [if_pos c_6191] at e
      refine Rn.bt hT rfl rfl rfl (decide_eq_true c_6191) ?_
      exact Rn.weak (ll_n (ll_n (ll_n (ll_s (ll_n ll_e))))) (hk x3 e)
    · rw [if_neg c_6191] at e
      refine Rn.bf hT rfl rfl rfl (decide_eq_false c_6191) ?_
      refine Rn.n hT 1 (pc' := 73) (L' := [some (.ref q0), some (.ref q1), none, some (.int x3), some (.int x4)]) (st' := [.int x3]) rfl ?_
      by_cases c_6192 : x3 = 0
      · rw [if_pos c_6192] at e
        refine Rn.bt hT rfl rfl rfl (decide_eq_true c_6192) ?_
        exact Rn.weak (ll_n (ll_n (ll_n (ll_s (ll_n ll_e))))) (hk x3 e)
      · rw [if_neg c_6192] at e
        refine Rn.bf hT rfl rfl rfl (decide_eq_false c_6192) ?_
        refine Rn.n hT 1 (pc' := 77) (L' := [some (.ref q0), some (.ref q1), none, some (.int x3), some (.int x4)]) (st' := [.ref q0]) rfl ?_
        obtain ⟨v_6193, e_6194, e⟩ := Option.bind_eq_some_iff.mp e
        refine Rn.hp hT rfl rfl (gR_hp e_6194) ?_
        refine Rn.n hT 1 (pc' := 81) (L' := [some (.ref q0), some (.ref q1), none, some (.int x3), some (.int x4)]) (st' := [.ref q0, .ref v_6193]) rfl ?_
        obtain ⟨v_6195, e_6196, e⟩ := Option.bind_eq_some_iff.mp e
        refine Rn.hp hT rfl rfl (gI_hp e_6196) ?_
        refine Rn.n hT 2 (pc' := 87) (L' := [some (.ref q0), some (.ref q1), none, some (.int x3), some (.int x4)]) (st' := [.int (v_6195 + x4), .ref v_6193]) rfl ?_
        obtain ⟨v_6197, e_6198, e⟩ := Option.bind_eq_some_iff.mp e
        refine Rn.hp hT rfl rfl (aB_hp e_6198) ?_
        refine Rn.n hT 2 (pc' := 91) (L' := [some (.ref q0), some (.ref q1), none, some (.int x3), some (.int x4)]) (st' := [.int x4, .ref q1, .int v_6197]) rfl ?_
        obtain ⟨v_6200, e_6199, e⟩ := Option.bind_eq_some_iff.mp e
        refine Rn.call hT rfl rfl rfl (Nat.le_of_ble_eq_true rfl) rfl (sA_cl (by omega) e_6199 ?_)
        show Rn d _ _ 94 [some (.ref q0), some (.ref q1), none, some (.int x3), some (.int x4)] [.int v_6200, .int v_6197] h Q
        by_cases c_6201 : v_6197 = v_6200
        · rw [if_pos c_6201] at e
          refine Rn.bf hT rfl rfl rfl (decide_eq_false (fun z => z c_6201)) ?_
          refine Rn.n hT 2 (pc' := 102) (L' := [some (.ref q0), some (.ref q1), none, some (.int x3), some (.int x4)]) (st' := [.int (1 : Int32)]) rfl ?_
          exact Rn.weak (ll_s (ll_s (ll_n (ll_n (ll_s ll_e))))) (rX12_stood_b102 hd ih hk hq e)
        · rw [if_neg c_6201] at e
          refine Rn.bt hT rfl rfl rfl (decide_eq_true c_6201) ?_
          refine Rn.n hT 1 (pc' := 102) (L' := [some (.ref q0), some (.ref q1), none, some (.int x3), some (.int x4)]) (st' := [.int (0 : Int32)]) rfl ?_
          exact Rn.weak (ll_s (ll_s (ll_n (ll_n (ll_s ll_e))))) (rX12_stood_b102 hd ih hk hq e)
def fX12_stood_b109 (N : Nat) (h : iv_H) (x3 : Int32)  : Option (Int32) := (if x3 = 0 ∨ x3 = 1 then some x3 else none)
set_option maxRecDepth 10000 in
set_option maxHeartbeats 4000000 in
theorem rX12_stood_b109 {d N : Nat} (hd : 10 ≤ d) {h : iv_H} {x3 : Int32}  {r : Int32} {Q : Option Value → iv_H → Prop} (hq : Q (some (.int r)) h) (e : fX12_stood_b109 N h x3  = some r) : Rn d 215 (some .boolean) 109 [none, none, none, some (.int x3), none] [] h Q := by
  have hT := hX12_stood
  unfold fX12_stood_b109 at e
  refine Rn.n hT 1 (pc' := 110) (L' := [none, none, none, some (.int x3), none]) (st' := [.int x3]) rfl ?_
  by_cases c_6202 : x3 = 0 ∨ x3 = 1
  · rw [if_pos c_6202] at e
    obtain rfl := Option.some.inj e
    exact Rn.ret hT rfl rfl (if_pos c_6202) hq
  · rw [if_neg c_6202] at e
    cases e
def fX12_stood_b59 (N : Nat) (h : iv_H) (q0 : Nat) (q1 : Nat) (s0 : Int32) : Option (Int32) := (fX12_stood_l63 N h q0 q1 (fun (z_6188 : Int32) => (fX12_stood_b109 N h z_6188)) N s0 (0 : Int32))
set_option maxRecDepth 10000 in
set_option maxHeartbeats 4000000 in
theorem rX12_stood_b59 {d N : Nat} (hd : 10 ≤ d) {h : iv_H} {q0 : Nat} {q1 : Nat} {s0 : Int32} {r : Int32} {Q : Option Value → iv_H → Prop} (hq : Q (some (.int r)) h) (e : fX12_stood_b59 N h q0 q1 s0 = some r) : Rn d 215 (some .boolean) 59 [some (.ref q0), some (.ref q1), none, none, none] [.int s0] h Q := by
  have hT := hX12_stood
  unfold fX12_stood_b59 at e
  refine Rn.n hT 3 (pc' := 63) (L' := [some (.ref q0), some (.ref q1), none, some (.int s0), some (.int (0 : Int32))]) (st' := []) rfl ?_
  refine Rn.weak (ll_s (ll_s (ll_n (ll_s (ll_s ll_e))))) (rX12_stood_l63 hd (fun z_6188 e => ?_) hq N s0 (0 : Int32) e)
  try dsimp only at e
  exact Rn.weak (ll_n (ll_n (ll_n (ll_s (ll_n ll_e))))) (rX12_stood_b109 hd hq e)
def fX12_stood_b41 (N : Nat) (h : iv_H) (q0 : Nat) (q1 : Nat) (x2 : Int32)  : Option (Int32) := ((gI h 12 29 q0).bind fun v_6183 => ((sL h q1).bind fun v_6186 => (if (x2 - v_6183) = v_6186 then (fX12_stood_b59 N h q0 q1 (1 : Int32)) else (fX12_stood_b59 N h q0 q1 (0 : Int32)))))
set_option maxRecDepth 10000 in
set_option maxHeartbeats 4000000 in
theorem rX12_stood_b41 {d N : Nat} (hd : 10 ≤ d) {h : iv_H} {q0 : Nat} {q1 : Nat} {x2 : Int32}  {r : Int32} {Q : Option Value → iv_H → Prop} (hq : Q (some (.int r)) h) (e : fX12_stood_b41 N h q0 q1 x2  = some r) : Rn d 215 (some .boolean) 41 [some (.ref q0), some (.ref q1), some (.int x2), none, none] [] h Q := by
  have hT := hX12_stood
  unfold fX12_stood_b41 at e
  refine Rn.n hT 2 (pc' := 43) (L' := [some (.ref q0), some (.ref q1), some (.int x2), none, none]) (st' := [.ref q0, .int x2]) rfl ?_
  obtain ⟨v_6183, e_6184, e⟩ := Option.bind_eq_some_iff.mp e
  refine Rn.hp hT rfl rfl (gI_hp e_6184) ?_
  refine Rn.n hT 2 (pc' := 48) (L' := [some (.ref q0), some (.ref q1), some (.int x2), none, none]) (st' := [.ref q1, .int (x2 - v_6183)]) rfl ?_
  obtain ⟨v_6186, e_6185, e⟩ := Option.bind_eq_some_iff.mp e
  refine Rn.call hT rfl rfl rfl (Nat.le_of_ble_eq_true rfl) rfl (sL_cl (by omega) e_6185 ?_)
  show Rn d _ _ 51 [some (.ref q0), some (.ref q1), some (.int x2), none, none] [.int v_6186, .int (x2 - v_6183)] h Q
  by_cases c_6187 : (x2 - v_6183) = v_6186
  · rw [if_pos c_6187] at e
    refine Rn.bf hT rfl rfl rfl (decide_eq_false (fun z => z c_6187)) ?_
    refine Rn.n hT 2 (pc' := 59) (L' := [some (.ref q0), some (.ref q1), some (.int x2), none, none]) (st' := [.int (1 : Int32)]) rfl ?_
    exact Rn.weak (ll_s (ll_s (ll_n (ll_n (ll_n ll_e))))) (rX12_stood_b59 hd hq e)
  · rw [if_neg c_6187] at e
    refine Rn.bt hT rfl rfl rfl (decide_eq_true c_6187) ?_
    refine Rn.n hT 1 (pc' := 59) (L' := [some (.ref q0), some (.ref q1), some (.int x2), none, none]) (st' := [.int (0 : Int32)]) rfl ?_
    exact Rn.weak (ll_s (ll_s (ll_n (ll_n (ll_n ll_e))))) (rX12_stood_b59 hd hq e)
def fX12_stood (N : Nat) (h : iv_H) (q0 : Nat) (q1 : Nat) : Option (Int32) := ((gI h 12 29 q0).bind fun v_6167 => (fX12_stood_l5 N h q0 q1 (fun (z_6169 : Int32) => (fX12_stood_b41 N h q0 q1 z_6169)) N v_6167))
set_option maxRecDepth 10000 in
set_option maxHeartbeats 4000000 in
theorem rX12_stood {d N : Nat} (hd : 11 ≤ d) {h : iv_H} {q0 : Nat} {q1 : Nat} {r : Int32} {Q : Option Value → iv_H → Prop} (e : fX12_stood N h q0 q1 = some r) (hq : Q (some (.int r)) h) : Cl d 215 [.ref q0, .ref q1] h Q := by
  obtain ⟨d, rfl⟩ : ∃ k, d = k + 1 := ⟨d - 1, by omega⟩
  have hd : 10 ≤ d := by omega
  have hT := hX12_stood
  unfold fX12_stood at e
  refine Cl.into (by decide) gX12_stood rfl ?_
  show Rn d 215 (some .boolean) 0 [some (.ref q0), some (.ref q1), none, none, none] [] h Q
  refine Rn.n hT 1 (pc' := 1) (L' := [some (.ref q0), some (.ref q1), none, none, none]) (st' := [.ref q0]) rfl ?_
  obtain ⟨v_6167, e_6168, e⟩ := Option.bind_eq_some_iff.mp e
  refine Rn.hp hT rfl rfl (gI_hp e_6168) ?_
  refine Rn.n hT 1 (pc' := 5) (L' := [some (.ref q0), some (.ref q1), some (.int v_6167), none, none]) (st' := []) rfl ?_
  refine Rn.weak (ll_s (ll_s (ll_s (ll_n (ll_n ll_e))))) (rX12_stood_l5 hd (fun z_6169 e => ?_) hq N v_6167 e)
  try dsimp only at e
  exact Rn.weak (ll_s (ll_s (ll_s (ll_n (ll_n ll_e))))) (rX12_stood_b41 hd hq e)
set_option maxRecDepth 10000 in
theorem hX12_entry : iv_Tb 216 tX12_entry := iv_tb_of (m := mX12_entry) rfl
set_option maxRecDepth 10000 in
theorem gX12_entry : PG.2 216 = some mX12_entry := iv_pi_of (t := tX12_entry) rfl (by decide)
def fX12_entry_b55 (N : Nat) (h : iv_H)   : Option (iv_H) := some h
set_option maxRecDepth 10000 in
set_option maxHeartbeats 4000000 in
theorem rX12_entry_b55 {d N : Nat} (hd : 0 ≤ d) {h : iv_H}   {r : iv_H} {Q : Option Value → iv_H → Prop} (hq : Q none r) (e : fX12_entry_b55 N h   = some r) : Rn d 216 none 55 [none, none, none] [] h Q := by
  have hT := hX12_entry
  unfold fX12_entry_b55 at e
  obtain rfl := Option.some.inj e
  exact Rn.ret hT rfl rfl rfl hq
def fX12_entry (N : Nat) (h : iv_H) (q0 : Nat) (x1 : Int32) (x2 : Int32) : Option (iv_H) := ((gI h 12 30 q0).bind fun v_6203 => (if v_6203 = 0 then ((gR h 12 40 q0).bind fun v_6206 => ((gI h 12 31 q0).bind fun v_6208 => ((gI h 12 33 q0).bind fun v_6210 => ((wI h v_6206 (((300 : Int32) * v_6208) + v_6210) x1).bind fun h_6212 => ((gR h_6212 12 41 q0).bind fun v_6214 => ((gI h_6212 12 31 q0).bind fun v_6216 => ((gI h_6212 12 33 q0).bind fun v_6218 => ((wI h_6212 v_6214 (((300 : Int32) * v_6216) + v_6218) x2).bind fun h_6220 => ((gI h_6220 12 33 q0).bind fun v_6222 => ((pV h_6220 12 33 q0 (.int (v_6222 + (1 : Int32)))).bind fun h_6224 => (fX12_entry_b55 N h_6224))))))))))) else (fX12_entry_b55 N h)))
set_option maxRecDepth 10000 in
set_option maxHeartbeats 4000000 in
theorem rX12_entry {d N : Nat} (hd : 1 ≤ d) {h : iv_H} {q0 : Nat} {x1 : Int32} {x2 : Int32} {r : iv_H} {Q : Option Value → iv_H → Prop} (e : fX12_entry N h q0 x1 x2 = some r) (hq : Q none r) : Cl d 216 [.ref q0, .int x1, .int x2] h Q := by
  obtain ⟨d, rfl⟩ : ∃ k, d = k + 1 := ⟨d - 1, by omega⟩
  have hd : 0 ≤ d := by omega
  have hT := hX12_entry
  unfold fX12_entry at e
  refine Cl.into (by decide) gX12_entry rfl ?_
  show Rn d 216 none 0 [some (.ref q0), some (.int x1), some (.int x2)] [] h Q
  refine Rn.n hT 1 (pc' := 1) (L' := [some (.ref q0), some (.int x1), some (.int x2)]) (st' := [.ref q0]) rfl ?_
  obtain ⟨v_6203, e_6204, e⟩ := Option.bind_eq_some_iff.mp e
  refine Rn.hp hT rfl rfl (gI_hp e_6204) ?_
  by_cases c_6205 : v_6203 = 0
  · rw [if_pos c_6205] at e
    refine Rn.bf hT rfl rfl rfl (decide_eq_false (fun z => z c_6205)) ?_
    refine Rn.n hT 1 (pc' := 8) (L' := [some (.ref q0), some (.int x1), some (.int x2)]) (st' := [.ref q0]) rfl ?_
    obtain ⟨v_6206, e_6207, e⟩ := Option.bind_eq_some_iff.mp e
    refine Rn.hp hT rfl rfl (gR_hp e_6207) ?_
    refine Rn.n hT 2 (pc' := 15) (L' := [some (.ref q0), some (.int x1), some (.int x2)]) (st' := [.ref q0, .int (300 : Int32), .ref v_6206]) rfl ?_
    obtain ⟨v_6208, e_6209, e⟩ := Option.bind_eq_some_iff.mp e
    refine Rn.hp hT rfl rfl (gI_hp e_6209) ?_
    refine Rn.n hT 2 (pc' := 20) (L' := [some (.ref q0), some (.int x1), some (.int x2)]) (st' := [.ref q0, .int ((300 : Int32) * v_6208), .ref v_6206]) rfl ?_
    obtain ⟨v_6210, e_6211, e⟩ := Option.bind_eq_some_iff.mp e
    refine Rn.hp hT rfl rfl (gI_hp e_6211) ?_
    refine Rn.n hT 2 (pc' := 25) (L' := [some (.ref q0), some (.int x1), some (.int x2)]) (st' := [.int x1, .int (((300 : Int32) * v_6208) + v_6210), .ref v_6206]) rfl ?_
    obtain ⟨h_6212, e_6213, e⟩ := Option.bind_eq_some_iff.mp e
    refine Rn.hp hT rfl rfl (wI_hp e_6213) ?_
    refine Rn.n hT 1 (pc' := 27) (L' := [some (.ref q0), some (.int x1), some (.int x2)]) (st' := [.ref q0]) rfl ?_
    obtain ⟨v_6214, e_6215, e⟩ := Option.bind_eq_some_iff.mp e
    refine Rn.hp hT rfl rfl (gR_hp e_6215) ?_
    refine Rn.n hT 2 (pc' := 34) (L' := [some (.ref q0), some (.int x1), some (.int x2)]) (st' := [.ref q0, .int (300 : Int32), .ref v_6214]) rfl ?_
    obtain ⟨v_6216, e_6217, e⟩ := Option.bind_eq_some_iff.mp e
    refine Rn.hp hT rfl rfl (gI_hp e_6217) ?_
    refine Rn.n hT 2 (pc' := 39) (L' := [some (.ref q0), some (.int x1), some (.int x2)]) (st' := [.ref q0, .int ((300 : Int32) * v_6216), .ref v_6214]) rfl ?_
    obtain ⟨v_6218, e_6219, e⟩ := Option.bind_eq_some_iff.mp e
    refine Rn.hp hT rfl rfl (gI_hp e_6219) ?_
    refine Rn.n hT 2 (pc' := 44) (L' := [some (.ref q0), some (.int x1), some (.int x2)]) (st' := [.int x2, .int (((300 : Int32) * v_6216) + v_6218), .ref v_6214]) rfl ?_
    obtain ⟨h_6220, e_6221, e⟩ := Option.bind_eq_some_iff.mp e
    refine Rn.hp hT rfl rfl (wI_hp e_6221) ?_
    refine Rn.n hT 2 (pc' := 47) (L' := [some (.ref q0), some (.int x1), some (.int x2)]) (st' := [.ref q0, .ref q0]) rfl ?_
    obtain ⟨v_6222, e_6223, e⟩ := Option.bind_eq_some_iff.mp e
    refine Rn.hp hT rfl rfl (gI_hp e_6223) ?_
    refine Rn.n hT 2 (pc' := 52) (L' := [some (.ref q0), some (.int x1), some (.int x2)]) (st' := [.int (v_6222 + (1 : Int32)), .ref q0]) rfl ?_
    obtain ⟨h_6224, e_6225, e⟩ := Option.bind_eq_some_iff.mp e
    refine Rn.hp hT rfl rfl (pV_hp rfl e_6225) ?_
    exact Rn.weak (ll_n (ll_n (ll_n ll_e))) (rX12_entry_b55 hd hq e)
  · rw [if_neg c_6205] at e
    refine Rn.bt hT rfl rfl rfl (decide_eq_true c_6205) ?_
    exact Rn.weak (ll_n (ll_n (ll_n ll_e))) (rX12_entry_b55 hd hq e)
set_option maxRecDepth 10000 in
theorem hX12_isCounted : iv_Tb 217 tX12_isCounted := iv_tb_of (m := mX12_isCounted) rfl
set_option maxRecDepth 10000 in
theorem gX12_isCounted : PG.2 217 = some mX12_isCounted := iv_pi_of (t := tX12_isCounted) rfl (by decide)
def fX12_isCounted_b15 (N : Nat) (h : iv_H) (q0 : Nat)  : Option (iv_H) := ((gI h 12 35 q0).bind fun v_6233 => ((pV h 12 35 q0 (.int (v_6233 + (1 : Int32)))).bind fun h_6235 => some h_6235))
set_option maxRecDepth 10000 in
set_option maxHeartbeats 4000000 in
theorem rX12_isCounted_b15 {d N : Nat} (hd : 1 ≤ d) {h : iv_H} {q0 : Nat}  {r : iv_H} {Q : Option Value → iv_H → Prop} (hq : Q none r) (e : fX12_isCounted_b15 N h q0  = some r) : Rn d 217 none 15 [some (.ref q0), none] [] h Q := by
  have hT := hX12_isCounted
  unfold fX12_isCounted_b15 at e
  refine Rn.n hT 2 (pc' := 17) (L' := [some (.ref q0), none]) (st' := [.ref q0, .ref q0]) rfl ?_
  obtain ⟨v_6233, e_6234, e⟩ := Option.bind_eq_some_iff.mp e
  refine Rn.hp hT rfl rfl (gI_hp e_6234) ?_
  refine Rn.n hT 2 (pc' := 22) (L' := [some (.ref q0), none]) (st' := [.int (v_6233 + (1 : Int32)), .ref q0]) rfl ?_
  obtain ⟨h_6235, e_6236, e⟩ := Option.bind_eq_some_iff.mp e
  refine Rn.hp hT rfl rfl (pV_hp rfl e_6236) ?_
  obtain rfl := Option.some.inj e
  exact Rn.ret hT rfl rfl rfl hq
def fX12_isCounted (N : Nat) (h : iv_H) (q0 : Nat) (x1 : Int32) : Option (iv_H) := ((gI h 12 35 q0).bind fun v_6226 => (if v_6226 = (60 : Int32) then ((cko h q0 12).bind fun _ => (fX12_fails N h q0 (3 : Int32) x1).bind fun h_6232 => (fX12_isCounted_b15 N h_6232 q0)) else (fX12_isCounted_b15 N h q0)))
set_option maxRecDepth 10000 in
set_option maxHeartbeats 4000000 in
theorem rX12_isCounted {d N : Nat} (hd : 2 ≤ d) {h : iv_H} {q0 : Nat} {x1 : Int32} {r : iv_H} {Q : Option Value → iv_H → Prop} (e : fX12_isCounted N h q0 x1 = some r) (hq : Q none r) : Cl d 217 [.ref q0, .int x1] h Q := by
  obtain ⟨d, rfl⟩ : ∃ k, d = k + 1 := ⟨d - 1, by omega⟩
  have hd : 1 ≤ d := by omega
  have hT := hX12_isCounted
  unfold fX12_isCounted at e
  refine Cl.into (by decide) gX12_isCounted rfl ?_
  show Rn d 217 none 0 [some (.ref q0), some (.int x1)] [] h Q
  refine Rn.n hT 1 (pc' := 1) (L' := [some (.ref q0), some (.int x1)]) (st' := [.ref q0]) rfl ?_
  obtain ⟨v_6226, e_6227, e⟩ := Option.bind_eq_some_iff.mp e
  refine Rn.hp hT rfl rfl (gI_hp e_6227) ?_
  refine Rn.n hT 1 (pc' := 6) (L' := [some (.ref q0), some (.int x1)]) (st' := [.int (60 : Int32), .int v_6226]) rfl ?_
  by_cases c_6228 : v_6226 = (60 : Int32)
  · rw [if_pos c_6228] at e
    refine Rn.bf hT rfl rfl rfl (decide_eq_false (fun z => z c_6228)) ?_
    refine Rn.n hT 3 (pc' := 12) (L' := [some (.ref q0), some (.int x1)]) (st' := [.int x1, .int (3 : Int32), .ref q0]) rfl ?_
    obtain ⟨_, e_6230, e⟩ := Option.bind_eq_some_iff.mp e
    obtain ⟨h_6232, e_6229, e⟩ := Option.bind_eq_some_iff.mp e
    refine Rn.call hT rfl rfl rfl (Nat.le_of_ble_eq_true rfl) (rcv_v gX12_fails (by omega) e_6230) (rX12_fails (by omega) e_6229 ?_)
    show Rn d _ _ 15 [some (.ref q0), some (.int x1)] [] h_6232 Q
    exact Rn.weak (ll_s (ll_n ll_e)) (rX12_isCounted_b15 hd hq e)
  · rw [if_neg c_6228] at e
    refine Rn.bt hT rfl rfl rfl (decide_eq_true c_6228) ?_
    exact Rn.weak (ll_s (ll_n ll_e)) (rX12_isCounted_b15 hd hq e)
set_option maxRecDepth 10000 in
theorem hX12_digits : iv_Tb 218 tX12_digits := iv_tb_of (m := mX12_digits) rfl
set_option maxRecDepth 10000 in
theorem gX12_digits : PG.2 218 = some mX12_digits := iv_pi_of (t := tX12_digits) rfl (by decide)
def fX12_digits_b58 (N : Nat) (h : iv_H) (q0 : Nat) (x1 : Int32) (x2 : Int32) (s0 : Int32) (kb : iv_H → Int32 → Option (Int32 × iv_H)) (kx : iv_H → Int32 → Option (Int32 × iv_H)) : Option (Int32 × iv_H) := ((gI h 12 29 q0).bind fun v_6265 => ((pV h 12 29 q0 (.int (v_6265 + (1 : Int32)))).bind fun h_6267 => (kb h_6267 s0)))
set_option maxRecDepth 10000 in
set_option maxHeartbeats 4000000 in
theorem rX12_digits_b58 {d N : Nat} (hd : 2 ≤ d) {h : iv_H} {q0 : Nat} {x1 : Int32} {x2 : Int32} {s0 : Int32} {kb : iv_H → Int32 → Option (Int32 × iv_H)} {kx : iv_H → Int32 → Option (Int32 × iv_H)} {r : Int32 × iv_H} {Q : Option Value → iv_H → Prop} (hb : ∀ (h : iv_H) (w3 : Int32), kb h w3 = some r → Rn d 218 (some .int) 25 [some (.ref q0), some (.int x1), some (.int x2), some (.int w3)] [] h Q) (hk : ∀ (h : iv_H) (w3 : Int32), kx h w3 = some r → Rn d 218 (some .int) 72 [some (.ref q0), some (.int x1), some (.int x2), some (.int w3)] [] h Q) (hq : Q (some (.int r.1)) r.2) (e : fX12_digits_b58 N h q0 x1 x2 s0 kb kx = some r) : Rn d 218 (some .int) 58 [some (.ref q0), some (.int x1), some (.int x2), none] [.int s0] h Q := by
  have hT := hX12_digits
  unfold fX12_digits_b58 at e
  refine Rn.n hT 3 (pc' := 61) (L' := [some (.ref q0), some (.int x1), some (.int x2), some (.int s0)]) (st' := [.ref q0, .ref q0]) rfl ?_
  obtain ⟨v_6265, e_6266, e⟩ := Option.bind_eq_some_iff.mp e
  refine Rn.hp hT rfl rfl (gI_hp e_6266) ?_
  refine Rn.n hT 2 (pc' := 66) (L' := [some (.ref q0), some (.int x1), some (.int x2), some (.int s0)]) (st' := [.int (v_6265 + (1 : Int32)), .ref q0]) rfl ?_
  obtain ⟨h_6267, e_6268, e⟩ := Option.bind_eq_some_iff.mp e
  refine Rn.hp hT rfl rfl (pV_hp rfl e_6268) ?_
  refine Rn.n hT 1 (pc' := 25) (L' := [some (.ref q0), some (.int x1), some (.int x2), some (.int s0)]) (st' := []) rfl ?_
  exact Rn.weak (ll_s (ll_s (ll_s (ll_s ll_e)))) (hb h_6267 s0 e)
def fX12_digits_l25 (N : Nat) (q0 : Nat) (x1 : Int32) (x2 : Int32) (kx : iv_H → Int32 → Option (Int32 × iv_H)) : Nat → iv_H → Int32 → Option (Int32 × iv_H)
  | 0, _, _ => none
  | n + 1, h, x3 => ((cko h q0 12).bind fun _ => (fX12_isDigit N h q0).bind fun v_6257 => (if v_6257 = 0 then (kx h x3) else ((gI h 12 29 q0).bind fun v_6259 => (if (5 : Int32) ≤ (v_6259 - x2) then (fX12_digits_b58 N h q0 x1 x2 x3 (fX12_digits_l25 N q0 x1 x2 kx n) kx) else ((cko h q0 12).bind fun _ => (fX12_sign N h q0).bind fun v_6264 => (fX12_digits_b58 N h q0 x1 x2 ((((10 : Int32) * x3) + v_6264) - (48 : Int32)) (fX12_digits_l25 N q0 x1 x2 kx n) kx))))))
set_option maxRecDepth 10000 in
set_option maxHeartbeats 4000000 in
theorem rX12_digits_l25 {d N : Nat} (hd : 2 ≤ d) {q0 : Nat} {x1 : Int32} {x2 : Int32} {kx : iv_H → Int32 → Option (Int32 × iv_H)} {r : Int32 × iv_H} {Q : Option Value → iv_H → Prop} (hk : ∀ (h : iv_H) (x3 : Int32), kx h x3 = some r → Rn d 218 (some .int) 72 [some (.ref q0), some (.int x1), some (.int x2), some (.int x3)] [] h Q) (hq : Q (some (.int r.1)) r.2) : ∀ (n : Nat) (h : iv_H) (x3 : Int32), fX12_digits_l25 N q0 x1 x2 kx n h x3 = some r → Rn d 218 (some .int) 25 [some (.ref q0), some (.int x1), some (.int x2), some (.int x3)] [] h Q := by
  have hT := hX12_digits
  intro n
  induction n with
  | zero =>
    intro h x3 e
    rw [fX12_digits_l25] at e
    cases e
  | succ n ih =>
    intro h x3 e
    rw [fX12_digits_l25] at e
    refine Rn.n hT 1 (pc' := 26) (L' := [some (.ref q0), some (.int x1), some (.int x2), some (.int x3)]) (st' := [.ref q0]) rfl ?_
    obtain ⟨_, e_6256, e⟩ := Option.bind_eq_some_iff.mp e
    obtain ⟨v_6257, e_6255, e⟩ := Option.bind_eq_some_iff.mp e
    refine Rn.call hT rfl rfl rfl (Nat.le_of_ble_eq_true rfl) (rcv_v gX12_isDigit (by omega) e_6256) (rX12_isDigit (by omega) e_6255 ?_)
    show Rn d _ _ 29 [some (.ref q0), some (.int x1), some (.int x2), some (.int x3)] [.int v_6257] h Q
    by_cases c_6258 : v_6257 = 0
    · rw [if_pos c_6258] at e
      refine Rn.bt hT rfl rfl rfl (decide_eq_true c_6258) ?_
      exact Rn.weak (ll_s (ll_s (ll_s (ll_s ll_e)))) (hk h x3 e)
    · rw [if_neg c_6258] at e
      refine Rn.bf hT rfl rfl rfl (decide_eq_false c_6258) ?_
      refine Rn.n hT 1 (pc' := 33) (L' := [some (.ref q0), some (.int x1), some (.int x2), some (.int x3)]) (st' := [.ref q0]) rfl ?_
      obtain ⟨v_6259, e_6260, e⟩ := Option.bind_eq_some_iff.mp e
      refine Rn.hp hT rfl rfl (gI_hp e_6260) ?_
      refine Rn.n hT 3 (pc' := 39) (L' := [some (.ref q0), some (.int x1), some (.int x2), some (.int x3)]) (st' := [.int (5 : Int32), .int (v_6259 - x2)]) rfl ?_
      by_cases c_6261 : (5 : Int32) ≤ (v_6259 - x2)
      · rw [if_pos c_6261] at e
        refine Rn.bt hT rfl rfl rfl (decide_eq_true c_6261) ?_
        refine Rn.n hT 1 (pc' := 58) (L' := [some (.ref q0), some (.int x1), some (.int x2), some (.int x3)]) (st' := [.int x3]) rfl ?_
        exact Rn.weak (ll_s (ll_s (ll_s (ll_n ll_e)))) (rX12_digits_b58 hd ih hk hq e)
      · rw [if_neg c_6261] at e
        refine Rn.bf hT rfl rfl rfl (decide_eq_false c_6261) ?_
        refine Rn.n hT 4 (pc' := 47) (L' := [some (.ref q0), some (.int x1), some (.int x2), some (.int x3)]) (st' := [.ref q0, .int ((10 : Int32) * x3)]) rfl ?_
        obtain ⟨_, e_6263, e⟩ := Option.bind_eq_some_iff.mp e
        obtain ⟨v_6264, e_6262, e⟩ := Option.bind_eq_some_iff.mp e
        refine Rn.call hT rfl rfl rfl (Nat.le_of_ble_eq_true rfl) (rcv_v gX12_sign (by omega) e_6263) (rX12_sign (by omega) e_6262 ?_)
        show Rn d _ _ 50 [some (.ref q0), some (.int x1), some (.int x2), some (.int x3)] [.int v_6264, .int ((10 : Int32) * x3)] h Q
        refine Rn.n hT 4 (pc' := 58) (L' := [some (.ref q0), some (.int x1), some (.int x2), some (.int x3)]) (st' := [.int ((((10 : Int32) * x3) + v_6264) - (48 : Int32))]) rfl ?_
        exact Rn.weak (ll_s (ll_s (ll_s (ll_n ll_e)))) (rX12_digits_b58 hd ih hk hq e)
def fX12_digits_b93 (N : Nat) (h : iv_H) (x3 : Int32)  : Option (Int32 × iv_H) := (some (x3, h))
set_option maxRecDepth 10000 in
set_option maxHeartbeats 4000000 in
theorem rX12_digits_b93 {d N : Nat} (hd : 2 ≤ d) {h : iv_H} {x3 : Int32}  {r : Int32 × iv_H} {Q : Option Value → iv_H → Prop} (hq : Q (some (.int r.1)) r.2) (e : fX12_digits_b93 N h x3  = some r) : Rn d 218 (some .int) 93 [none, none, none, some (.int x3)] [] h Q := by
  have hT := hX12_digits
  unfold fX12_digits_b93 at e
  refine Rn.n hT 1 (pc' := 94) (L' := [none, none, none, some (.int x3)]) (st' := [.int x3]) rfl ?_
  obtain rfl := Option.some.inj e
  exact Rn.ret hT rfl rfl rfl hq
def fX12_digits_b87 (N : Nat) (h : iv_H) (q0 : Nat) (x2 : Int32) (x3 : Int32)  : Option (Int32 × iv_H) := ((cko h q0 12).bind fun _ => (fX12_fails N h q0 (1 : Int32) x2).bind fun h_6272 => (fX12_digits_b93 N h_6272 x3))
set_option maxRecDepth 10000 in
set_option maxHeartbeats 4000000 in
theorem rX12_digits_b87 {d N : Nat} (hd : 2 ≤ d) {h : iv_H} {q0 : Nat} {x2 : Int32} {x3 : Int32}  {r : Int32 × iv_H} {Q : Option Value → iv_H → Prop} (hq : Q (some (.int r.1)) r.2) (e : fX12_digits_b87 N h q0 x2 x3  = some r) : Rn d 218 (some .int) 87 [some (.ref q0), none, some (.int x2), some (.int x3)] [] h Q := by
  have hT := hX12_digits
  unfold fX12_digits_b87 at e
  refine Rn.n hT 3 (pc' := 90) (L' := [some (.ref q0), none, some (.int x2), some (.int x3)]) (st' := [.int x2, .int (1 : Int32), .ref q0]) rfl ?_
  obtain ⟨_, e_6270, e⟩ := Option.bind_eq_some_iff.mp e
  obtain ⟨h_6272, e_6269, e⟩ := Option.bind_eq_some_iff.mp e
  refine Rn.call hT rfl rfl rfl (Nat.le_of_ble_eq_true rfl) (rcv_v gX12_fails (by omega) e_6270) (rX12_fails (by omega) e_6269 ?_)
  show Rn d _ _ 93 [some (.ref q0), none, some (.int x2), some (.int x3)] [] h_6272 Q
  exact Rn.weak (ll_n (ll_n (ll_n (ll_s ll_e)))) (rX12_digits_b93 hd hq e)
def fX12_digits (N : Nat) (h : iv_H) (q0 : Nat) (x1 : Int32) : Option (Int32 × iv_H) := ((cko h q0 12).bind fun _ => (fX12_isDigit N h q0).bind fun v_6239 => (if v_6239 = 0 then ((gI h 12 29 q0).bind fun v_6249 => ((cko h q0 12).bind fun _ => (fX12_fails N h q0 (0 : Int32) v_6249).bind fun h_6254 => (some ((0 : Int32), h_6254)))) else ((gI h 12 29 q0).bind fun v_6241 => (fX12_digits_l25 N q0 x1 v_6241 (fun (h_6243 : iv_H) (z_6244 : Int32) => ((gI h_6243 12 29 q0).bind fun v_6245 => (if (5 : Int32) < (v_6245 - v_6241) then (fX12_digits_b87 N h_6243 q0 v_6241 z_6244) else (if z_6244 ≤ x1 then (fX12_digits_b93 N h_6243 z_6244) else (fX12_digits_b87 N h_6243 q0 v_6241 z_6244))))) N h (0 : Int32)))))
set_option maxRecDepth 10000 in
set_option maxHeartbeats 4000000 in
theorem rX12_digits {d N : Nat} (hd : 3 ≤ d) {h : iv_H} {q0 : Nat} {x1 : Int32} {r : Int32 × iv_H} {Q : Option Value → iv_H → Prop} (e : fX12_digits N h q0 x1 = some r) (hq : Q (some (.int r.1)) r.2) : Cl d 218 [.ref q0, .int x1] h Q := by
  obtain ⟨d, rfl⟩ : ∃ k, d = k + 1 := ⟨d - 1, by omega⟩
  have hd : 2 ≤ d := by omega
  have hT := hX12_digits
  unfold fX12_digits at e
  refine Cl.into (by decide) gX12_digits rfl ?_
  show Rn d 218 (some .int) 0 [some (.ref q0), some (.int x1), none, none] [] h Q
  refine Rn.n hT 1 (pc' := 1) (L' := [some (.ref q0), some (.int x1), none, none]) (st' := [.ref q0]) rfl ?_
  obtain ⟨_, e_6238, e⟩ := Option.bind_eq_some_iff.mp e
  obtain ⟨v_6239, e_6237, e⟩ := Option.bind_eq_some_iff.mp e
  refine Rn.call hT rfl rfl rfl (Nat.le_of_ble_eq_true rfl) (rcv_v gX12_isDigit (by omega) e_6238) (rX12_isDigit (by omega) e_6237 ?_)
  show Rn d _ _ 4 [some (.ref q0), some (.int x1), none, none] [.int v_6239] h Q
  by_cases c_6240 : v_6239 = 0
  · rw [if_pos c_6240] at e
    refine Rn.bf hT rfl rfl rfl (decide_eq_false (fun z => z c_6240)) ?_
    refine Rn.n hT 3 (pc' := 10) (L' := [some (.ref q0), some (.int x1), none, none]) (st' := [.ref q0, .int (0 : Int32), .ref q0]) rfl ?_
    obtain ⟨v_6249, e_6250, e⟩ := Option.bind_eq_some_iff.mp e
    refine Rn.hp hT rfl rfl (gI_hp e_6250) ?_
    obtain ⟨_, e_6252, e⟩ := Option.bind_eq_some_iff.mp e
    obtain ⟨h_6254, e_6251, e⟩ := Option.bind_eq_some_iff.mp e
    refine Rn.call hT rfl rfl rfl (Nat.le_of_ble_eq_true rfl) (rcv_v gX12_fails (by omega) e_6252) (rX12_fails (by omega) e_6251 ?_)
    show Rn d _ _ 16 [some (.ref q0), some (.int x1), none, none] [] h_6254 Q
    refine Rn.n hT 1 (pc' := 17) (L' := [some (.ref q0), some (.int x1), none, none]) (st' := [.int (0 : Int32)]) rfl ?_
    obtain rfl := Option.some.inj e
    exact Rn.ret hT rfl rfl rfl hq
  · rw [if_neg c_6240] at e
    refine Rn.bt hT rfl rfl rfl (decide_eq_true c_6240) ?_
    refine Rn.n hT 1 (pc' := 19) (L' := [some (.ref q0), some (.int x1), none, none]) (st' := [.ref q0]) rfl ?_
    obtain ⟨v_6241, e_6242, e⟩ := Option.bind_eq_some_iff.mp e
    refine Rn.hp hT rfl rfl (gI_hp e_6242) ?_
    refine Rn.n hT 3 (pc' := 25) (L' := [some (.ref q0), some (.int x1), some (.int v_6241), some (.int (0 : Int32))]) (st' := []) rfl ?_
    refine Rn.weak (ll_s (ll_s (ll_s (ll_s ll_e)))) (rX12_digits_l25 hd (fun h_6243 z_6244 e => ?_) hq N h (0 : Int32) e)
    try dsimp only at e
    refine Rn.n hT 1 (pc' := 73) (L' := [some (.ref q0), some (.int x1), some (.int v_6241), some (.int z_6244)]) (st' := [.ref q0]) rfl ?_
    obtain ⟨v_6245, e_6246, e⟩ := Option.bind_eq_some_iff.mp e
    refine Rn.hp hT rfl rfl (gI_hp e_6246) ?_
    refine Rn.n hT 3 (pc' := 79) (L' := [some (.ref q0), some (.int x1), some (.int v_6241), some (.int z_6244)]) (st' := [.int (5 : Int32), .int (v_6245 - v_6241)]) rfl ?_
    by_cases c_6247 : (5 : Int32) < (v_6245 - v_6241)
    · rw [if_pos c_6247] at e
      refine Rn.bt hT rfl rfl rfl (decide_eq_true c_6247) ?_
      exact Rn.weak (ll_s (ll_n (ll_s (ll_s ll_e)))) (rX12_digits_b87 hd hq e)
    · rw [if_neg c_6247] at e
      refine Rn.bf hT rfl rfl rfl (decide_eq_false c_6247) ?_
      refine Rn.n hT 2 (pc' := 84) (L' := [some (.ref q0), some (.int x1), some (.int v_6241), some (.int z_6244)]) (st' := [.int x1, .int z_6244]) rfl ?_
      by_cases c_6248 : z_6244 ≤ x1
      · rw [if_pos c_6248] at e
        refine Rn.bt hT rfl rfl rfl (decide_eq_true c_6248) ?_
        exact Rn.weak (ll_n (ll_n (ll_n (ll_s ll_e)))) (rX12_digits_b93 hd hq e)
      · rw [if_neg c_6248] at e
        refine Rn.bf hT rfl rfl rfl (decide_eq_false c_6248) ?_
        exact Rn.weak (ll_s (ll_n (ll_s (ll_s ll_e)))) (rX12_digits_b87 hd hq e)
