-- THE START: both objects made
def stG (g : Nat → iv_C) : Option iv_H := (nO (0, 0, g) 11).bind fun p => (fX11_init 100 p.2 p.1).bind fun h1 => (nO h1 12).bind fun p2 => fX12_init 100 p2.2 p2.1
def stC : Bool := match stG dmy with
  | some k => decide (k.1 = 174) && decide (k.2.1 ≤ 174000) && (List.range 174).all (fun a => okC a (sh a) (k.2.2 a))
  | none => false
set_option maxRecDepth 100000 in
theorem stC_ok : stC = true := by decide +kernel
theorem stG_so {g : Nat → iv_C} : So 0 0 g (stG g) (stG dmy) := by
  unfold stG
  refine Szq_b (Szq_nO (Sm_start (nc := 0) (m := 0) (g := g))) (fun v h k hs => ?_)
  dsimp only
  refine So_b (So_X11 hs) (fun h k hs => ?_)
  refine Szq_b (Szq_nO hs) (fun v h k hs => ?_)
  dsimp only
  exact So_X12 hs
/-- the memory at the start -/
def st0 : iv_M := fun a i => match stG dmy with
  | some k => if a < 174 then vlC (k.2.2 a) i else 0
  | none => 0
