-- new int[n][k]: the interpreter's is the machine's
section GD4
variable {p : Program} {l : Launch} {e : Env} {R : Room} {s : State} {m : MethodId} {args : Array Value} {below : List Frame} {meth : Method} {c : Code} {Q : State → Prop} {cc : ByteArray} {own : String} {D : va_G} {S0 : Nat} {ex : Nat → Nat} {tc : Nat → ClassId} {X : Nat → iv_C} {tx : List (String × Nat × String × Nat)}
theorem gd_row_is (cI : ClassId) (M : Nat) : gd_row cI M = vp_cell cI (M, .inl (fun _ => 0)) := by
  show ({ cls := cI, slots := Array.replicate M (.int 0), vm := .none } : Cell) = arrV cI M (fun _ => .int 0)
  rw [arrV_new]
theorem gd_out_cell (cA : ClassId) (N a0 j : Nat) : gd_out cA N a0 j = vp_cell cA (N, .inr (.inr (.inr (.inr (fun i => if i < j then some (a0 + 1 + i) else none))))) := gd_out_is cA N a0 j
set_option maxHeartbeats 4000000 in
theorem iv_mul_ok (hx : p.tables.exec = Jvm.exec) (hb : c.code = cc) (hown : s.vm.findClass own = some m.cls) (hts : ∀ w ∈ lw_g, w.before args s = true) (hK : va_K D vwCl (iv_tys tc) s) (hE : iv_E S0 ex X tx s) : iv_MulOk p l e R s m args below meth c Q cc own lw_g D S0 ex tc X := by
  intro pc x a b ls sw st st' h h' H locs cells slots df mn hd hok h0 hC hW hS hRc hRs hh k
  obtain ⟨-, hlk, harr⟩ := hok
  unfold iv_mkm at hh
  split at hh
  · next k1 n1 r =>
    split at hh
    · next hcnd =>
      obtain ⟨hn, hk1, hn1000, hk1000, hbig⟩ := hcnd
      cases hh
      obtain ⟨cA, cI, kA, g1, g2, g3, g4⟩ := hE.2.2.2.2.2.2.2.2
      have eA : cA = tc 5 := by
        have := (hK.2 5 _ rfl).2
        exact Option.some.inj (g1.symm.trans this)
      have eI : cI = tc 0 := by
        have := (hK.2 0 _ rfl).2
        exact Option.some.inj (g4.symm.trans this)
      subst eA
      subst eI
      obtain ⟨-, kI, hI, ccc, hkI⟩ := (hK.2 0 _ rfl).1 0 (fun _ => .null)
      have hI : s.vm.classes[tc 0]? = some kI := hI
      generalize hNN : n1.toNatClampNeg = NN at *
      generalize hKK : k1.toNatClampNeg = KK at *
      have ec : h.1 + 1 + NN - h.1 = 1 + NN := by omega
      have es : h.2.1 + NN + NN * KK - h.2.1 = NN + NN * KK := by omega
      dsimp only at hRc hRs k
      rw [ec] at hRc k
      rw [es] at hRs k
      intro T hT Z
      obtain ⟨vm₁, L, hwarm, hL, ZF, step⟩ := gd_step Z hx hown (hts _ hlk) g1 g2 g3 hI hkI (g := F0 m pc ls (.int k1 :: .int n1 :: r.map (iv_tr (iv_ad S0 ex)))) rfl (by rw [hb]; exact hd) (n := n1) (k := k1) rfl hn hk1 (by rw [hNN]; exact hn1000) (by rw [hKK]; exact hk1000) (by rw [hNN]; exact hRc) (by rw [hNN, hKK]; exact hRs)
      rw [hNN, hKK] at ZF step
      obtain ⟨f1, f2, f3, f4, f5, f6⟩ := gd_heap (T.setVm vm₁) (tc 5) (tc 0) NN KK NN
      have hTh : (T.setVm vm₁).heap = H := hT
      rw [hTh] at f1 f2 f5 f6
      have hsz := hW.1
      generalize hF : gd_st (T.setVm vm₁) (tc 5) (tc 0) NN KK NN = FF at *
      have hTs : T.heap.size = H.size := by rw [hT]
      have hS' : va_S (fun q : Nat => S0 ≤ q) s.heap FF.heap (locs ++ L) := by
        refine ⟨by have := hS.1; omega, fun q q1 q2 => ?_, fun q hq => ?_⟩
        · have : q < H.size := by have := hS.1; omega
          rw [f5 q this]
          exact hS.2.1 q q1 q2
        · rcases List.mem_append.mp hq with g | g
          · exact hS.2.2 q g
          · show S0 ≤ q.base
            rw [hL q g, hTs, hsz]
            omega
      have hWo : iv_Wo D S0 ex tc X (h.1 + 1 + NN, h.2.1 + NN + NN * KK, fun q => if q = h.1 then .inl (5, NN, .inr (.inr (fun i => if i < NN then some (h.1 + 1 + i) else none))) else if h.1 < q ∧ q < h.1 + 1 + NN then .inl (0, KK, .inl (fun _ => 0)) else h.2.2 q) FF.heap := by
        refine ⟨by show FF.heap.size = S0 + (h.1 + 1 + NN); omega, by show h.1 + 1 + NN ≤ iv_big; omega, fun kq q hq => ?_, fun a ha => ?_⟩
        · obtain ⟨hlt, rfl⟩ := iv_ws_of hq
          dsimp only at hlt ⊢
          by_cases e1 : kq = h.1
          · subst e1
            rw [if_pos rfl]
            show FF.heap[S0 + h.1]? = some (vp_cell _ _)
            rw [← hsz, f2, gd_out_cell]
            refine congrArg some (congrArg (fun z => vp_cell (tc 5) (NN, z)) ?_)
            refine congrArg (fun z => Sum.inr (Sum.inr (Sum.inr (Sum.inr z)))) (funext fun i => ?_)
            dsimp only
            by_cases hi : i < NN
            · rw [if_pos hi, if_pos hi]
              show _ = some (iv_ad S0 ex (h.1 + 1 + i))
              rw [iv_ad_own (by omega), hsz]
              congr 1
              omega
            · rw [if_neg hi, if_neg hi]
              rfl
          · rw [if_neg e1]
            by_cases e2 : h.1 < kq
            · rw [if_pos ⟨e2, hlt⟩]
              show FF.heap[S0 + kq]? = some (vp_cell _ _)
              have := f6 (kq - h.1 - 1) (by omega)
              rw [show H.size + 1 + (kq - h.1 - 1) = S0 + kq by omega, gd_row_is] at this
              exact this
            · rw [if_neg (fun z => e2 z.1)]
              have hlt2 : kq < h.1 := by omega
              exact (hW.2.2.1 kq _ (iv_ws_at hlt2)).kept (f5 _ (by show S0 + kq < H.size; omega))
        · show (if a = h.1 then _ else if h.1 < a ∧ a < h.1 + 1 + NN then _ else h.2.2 a) = X a
          rw [if_neg (by omega), if_neg (by omega)]
          exact hW.2.2.2 a ha
      obtain ⟨t, a1, b1⟩ := k FF.heap (locs ++ L) hWo hS' FF rfl (by
        have e1 : cells + (1 + NN) = cells + 1 + NN := by omega
        have e2 : slots + (NN + NN * KK) = slots + NN + NN * KK := by omega
        rw [e1, e2]
        exact ZF)
      refine ⟨t, step t ?_, b1⟩
      have e3 : (Value.ref h.1 :: r).map (iv_tr (iv_ad S0 ex)) = .ref T.heap.size :: r.map (iv_tr (iv_ad S0 ex)) := by
        show Value.ref (iv_ad S0 ex h.1) :: _ = _
        rw [iv_ad_own (by omega), hTs, hsz]
      rw [e3] at a1
      exact a1
    · cases hh
  · cases hh
end GD4
