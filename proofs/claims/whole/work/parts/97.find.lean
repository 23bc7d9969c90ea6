-- THE FEWEST NIGHTS: the class
theorem Lok_lay {m : Int} {B : iv_M} {f g : Int → Int} (h : WHm m B) (hO : OZ B) (hv : FV B f g) : Lok m B (lay B f g) := by
  have e4 : lay B f g 114 = B 114 := lay_o (by omega) (by omega) (by omega)
  have e22 : lay B f g 122 = B 122 := lay_o (by omega) (by omega) (by omega)
  have pc : pC (lay B f g) = pC B := by funext j r; unfold pC; rw [e22]
  have pt : pT (lay B f g) = pT B := by funext j r; unfold pT; rw [e22]
  have fv : FV (lay B f g) = FV B := by funext f g; unfold FV; rw [e4]
  refine ⟨WHm_past h (fun j _ _ => by rw [e4]) (fun a ha => lay_o (by omega) (by omega) (by omega)) (Wf_lay h.1.1 hv) (by rw [e4]; exact h.2.1.2.2.2.1) (by rw [e4]; exact h.2.1.2.2.2.2.1) ?_, OZ_lay hO h.1.1.2.2.2.2.2.1, fun j _ => by rw [e4], fun a ha => lay_o (by omega) (by omega) (by omega), fun i hi => ?_⟩
  · rw [e4, pc, pt, fv]; exact h.2.2.2.2.2.1
  · unfold lay
    rw [if_neg (by omega), if_neg (by omega), if_neg (by omega), if_neg (by omega), if_neg (by omega), if_neg (by omega)]
    exact ⟨rfl, rfl⟩
def Sok (m : Int) (B P : iv_M) : Prop := Lok m B P ∧ P 114 6 = B 114 6
theorem Sok.all {m : Int} {B P : iv_M} (h : Sok m B P) : P 114 = B 114 := by
  funext j
  by_cases e : j = 6
  · rw [e]; exact h.2
  · exact h.1.2.2.1 j e
theorem Sok.wk {m : Int} {B P : iv_M} {k r o : Int} (h : Sok m B P) (hi : isW P k r o) (hs : slO P k r o) : Sok m B (wlk P k r o) := ⟨h.1.wk hi hs, by rw [wlk_o (by omega) (by omega) (by omega)]; exact h.2⟩
theorem Sok_lay {m : Int} {B : iv_M} {f g : Int → Int} (h : WHm m B) (hO : OZ B) (hv : FV B f g) : Sok m B (lay B f g) := ⟨Lok_lay h hO hv, by rw [lay_o (by omega) (by omega) (by omega)]⟩
theorem NOK_sok {m fr c : Int} {B P : iv_M} (h : Sok m B P) : NOK B ((keyB P).1, (keyB P).2, fr, c) ∧ (∀ i, 0 ≤ i → i < B 114 2 → un4 (keyB P).1 i = P 116 i ∧ un2 (keyB P).2 i = P 117 i) := NOK_of h.1.1.1 (by rw [h.all]) (by rw [h.all]) (by rw [h.all])
theorem Sp_se {q : Nat} (h : q = 9 ∨ q = 31) : Sp 78 q 71 := by unfold Sp; omega
theorem TF_71 : TF 71 := by unfold TF; decide
theorem LH_se {q : Nat} {B : iv_M} (h : q = 9 ∨ q = 31) (hW : Wf B) (p0 : 0 ≤ B 114 3) (p1 : B 114 3 ≤ 6) : LH 78 q 71 70 B := ⟨Sp_se h, TF_71, by decide, by decide, hW, p0, p1, by omega, by omega, by omega, by omega, by omega, by omega, by omega, by decide⟩
def Fr (s x : iv_M) : Prop := (∀ a, (a < 64 ∨ 80 < a) → x a = s a) ∧ ∀ i, i ≠ 4 → x 64 i = s 64 i
theorem Fr.trans {s x y : iv_M} (h : Fr s x) (h2 : Fr x y) : Fr s y := ⟨fun a ha => by rw [h2.1 a ha, h.1 a ha], fun i hi => by rw [h2.2 i hi, h.2 i hi]⟩
def Pth (p : List Int) (x : iv_M) : Prop := ∀ k : Nat, k < p.length → x 80 k = wcd (p.getD k 0)
theorem find_in {N q i : Nat} {W : Int × Int} {s B Bi : iv_M} {m : Int} {ru : Option (List (List (Int × Int)))} {kx : iv_M → Option (Int × iv_M)} (hN : 5000 ≤ N) (hq : q = 9 ∨ q = 31) (hB : Sok m B Bi) : ∀ (d k f : Nat) (x : iv_M) (L : List Nd), k + d = (okl ru Bi 204).length → d < f → LW x 78 q 71 Bi ru → AL x 70 (okl ru Bi 204) → SC x L → LT B L → i < L.length → Fr s x → (∃ r x', expd W i Bi ((okl ru Bi 204).drop k) L = .inl r ∧ FX9_find_l123 N 64 W.1 W.2 (i : Int) ((okl ru Bi 204).length : Int) kx f x (k : Int) = some (r.1, x') ∧ Pth r.2 x' ∧ Fr s x') ∨ (∃ L' x', expd W i Bi ((okl ru Bi 204).drop k) L = .inr L' ∧ FX9_find_l123 N 64 W.1 W.2 (i : Int) ((okl ru Bi 204).length : Int) kx f x (k : Int) = kx x' ∧ LW x' 78 q 71 Bi ru ∧ SC x' L' ∧ LT B L' ∧ L.length ≤ L'.length ∧ Fr s x') := by
  intro d
  have hW := hB.1.1.1
  have hlen := okl_stc ru Bi 204
  rw [stc_204] at hlen
  induction d with
  | zero =>
    intro k f x L hk hf hL hA hS hT hi hr
    obtain ⟨f', rfl⟩ : ∃ f', f = f' + 1 := ⟨f - 1, by omega⟩
    right
    refine ⟨L, x, ?_, ?_, hL, hS, hT, Nat.le_refl _, hr⟩
    · rw [List.drop_of_length_le (by omega)]; rfl
    · rw [FX9_find_l123, if_pos (by omega)]
  | succ d ih =>
    intro k f x L hk hf hL hA hS hT hi hr
    obtain ⟨f', rfl⟩ : ∃ f', f = f' + 1 := ⟨f - 1, by omega⟩
    have hkl : k < (okl ru Bi 204).length := by omega
    obtain ⟨c, hc⟩ : ∃ c, c = (okl ru Bi 204).getD k 0 := ⟨_, rfl⟩
    have hcm : c ∈ okl ru Bi 204 := by rw [hc]; exact gd_mem hkl
    obtain ⟨c0, c1, c2, c3, c4⟩ := okc_walk hcm
    have hrow : x 70 k = wcd c := by rw [hA k hkl, hc]
    have hdr : (okl ru Bi 204).drop k = c :: (okl ru Bi 204).drop (k + 1) := by rw [hc]; exact drop_cons hkl
    obtain ⟨l1, l2, l3⟩ := hL
    obtain ⟨g, g1, g2, g3, g4⟩ := go_ok (N := N) (q := 71) (s := x) (B := Bi) (by omega) TF_71 hW l2 l3 c2 c3
    have og : ∀ a, (a < 71 ∨ 76 < a) → g a = x a := fun a ha => by funext i; exact g4 a i ha
    obtain ⟨v, b1, b2, b3, b4⟩ := bk_ok (N := N) (q := 71) (s := g) (B := Bi) (by omega) TF_71 hW c2 c3 g2 g3
    have ov : ∀ a, (a < 71 ∨ 76 < a) → v a = x a := fun a ha => by rw [← og a ha]; funext i; exact b4 a i ha
    have hLv : LR v 78 q 71 Bi ru := LR_ext (fun i _ => by rw [ov 78 (by omega)]) (ov _ (by omega)) (ov _ (by omega)) (fun a ha => ov a (by omega)) l1
    have hSv : SC v L := SC_ext (by rw [ov 64 (by omega)]) (fun a a0 a1 => ov a (by omega)) hS
    have hAv : AL v 70 (okl ru Bi 204) := AL_ext (ov 70 (by omega)) hA
    have hrv : Fr s v := hr.trans ⟨fun a ha => ov a (by omega), fun i _ => by rw [ov 64 (by omega)]⟩
    have hwk : wkc Bi c = wlk Bi (cK c) (cR c) (cO c) := rfl
    have k1 : g 71 3 = (keyB (wkc Bi c)).1 := g3.1
    have k2 : g 71 4 = (keyB (wkc Bi c)).2 := g3.2
    have hex : ∀ cs, expd W i Bi (c :: cs) L = if keyB (wkc Bi c) = W then .inl (((trw L i).length : Int) + 1, trw L i ++ [c]) else if knn L (keyB (wkc Bi c)) = true then expd W i Bi cs L else if 1500 ≤ L.length then .inl (-3, []) else expd W i Bi cs (L ++ [((keyB (wkc Bi c)).1, (keyB (wkc Bi c)).2, (i : Int), c)]) := fun cs => rfl
    have start : FX9_find_l123 N 64 W.1 W.2 (i : Int) ((okl ru Bi 204).length : Int) kx (f' + 1) x (k : Int) = (if (keyB (wkc Bi c)).1 = W.1 then (if (keyB (wkc Bi c)).2 = W.2 then ((FX9_trace N v 64 (i : Int) (wcd c)).bind fun r_1494 => (fun (v_1494 : Int) (s_1495 : iv_M) => (some (v_1494, s_1495))) r_1494.1 r_1494.2) else (FX9_find_b203 N v 64 W.1 W.2 (i : Int) ((okl ru Bi 204).length : Int) (k : Int) (keyB (wkc Bi c)).1 (keyB (wkc Bi c)).2 (FX9_find_l123 N 64 W.1 W.2 (i : Int) ((okl ru Bi 204).length : Int) kx f') kx)) else (FX9_find_b203 N v 64 W.1 W.2 (i : Int) ((okl ru Bi 204).length : Int) (k : Int) (keyB (wkc Bi c)).1 (keyB (wkc Bi c)).2 (FX9_find_l123 N 64 W.1 W.2 (i : Int) ((okl ru Bi 204).length : Int) kx f') kx)) := by
      rw [FX9_find_l123, if_neg (by omega)]
      simp only [Nat.reduceAdd]
      unfold FX1_go FX1_goBack
      have hg1 : FX1_stir N x 71 (wcd c) 1 = some g := g1
      have hb1 : FX1_stir N g 71 (wcd c) 0 = some v := b1
      rw [rd_ok (by omega) (by omega), Option.bind_some, hrow, hg1, Option.bind_some, Option.bind_some, rd_ok (by omega) (by omega), Option.bind_some, og 70 (by omega), hrow, hb1, Option.bind_some, Option.bind_some, k1, k2, rd_ok (by omega) (by omega), Option.bind_some, ov 70 (by omega), hrow]
    have nof : ¬ keyB (wkc Bi c) = W → (∃ r x', expd W i Bi ((okl ru Bi 204).drop k) L = .inl r ∧ FX9_find_b203 N v 64 W.1 W.2 (i : Int) ((okl ru Bi 204).length : Int) (k : Int) (keyB (wkc Bi c)).1 (keyB (wkc Bi c)).2 (FX9_find_l123 N 64 W.1 W.2 (i : Int) ((okl ru Bi 204).length : Int) kx f') kx = some (r.1, x') ∧ Pth r.2 x' ∧ Fr s x') ∨ (∃ L' x', expd W i Bi ((okl ru Bi 204).drop k) L = .inr L' ∧ FX9_find_b203 N v 64 W.1 W.2 (i : Int) ((okl ru Bi 204).length : Int) (k : Int) (keyB (wkc Bi c)).1 (keyB (wkc Bi c)).2 (FX9_find_l123 N 64 W.1 W.2 (i : Int) ((okl ru Bi 204).length : Int) kx f') kx = kx x' ∧ LW x' 78 q 71 Bi ru ∧ SC x' L' ∧ LT B L' ∧ L.length ≤ L'.length ∧ Fr s x') := by
      intro hne
      rw [hdr, hex, if_neg hne]
      unfold FX9_find_b203
      simp only [Nat.reduceAdd]
      rw [rd_ok (by omega) (by omega), Option.bind_some, ov 70 (by omega), hrow, w32_id (x := (k : Int) + 1) (by omega) (by omega)]
      rcases add_ok (N := N) (x := v) (L := L) (a := (keyB (wkc Bi c)).1) (b := (keyB (wkc Bi c)).2) (fr := (i : Int)) (w := wcd c) hN hSv with ⟨a1, a2⟩ | ⟨a1, a2, a3⟩ | ⟨a1, a2, x', a3, a4, a5, a6⟩
      · rw [if_pos a1, a2, Option.bind_some]
        show (∃ r x', _ ∧ (if (1 : Int) = 0 then some (-3, v) else FX9_find_l123 N 64 W.1 W.2 (i : Int) ((okl ru Bi 204).length : Int) kx f' v ((k : Int) + 1)) = _ ∧ _) ∨ (∃ L' x', _ ∧ (if (1 : Int) = 0 then some (-3, v) else FX9_find_l123 N 64 W.1 W.2 (i : Int) ((okl ru Bi 204).length : Int) kx f' v ((k : Int) + 1)) = _ ∧ _)
        rw [if_neg (by decide)]
        exact ih (k + 1) f' v L (by omega) (by omega) ⟨hLv, b2, b3⟩ hAv hSv hT hi hrv
      · rw [if_neg a1, if_pos (by omega), a3, Option.bind_some]
        left
        exact ⟨(-3, []), v, rfl, if_pos rfl, (fun k hk => by cases hk), hrv⟩
      · rw [if_neg a1, if_neg (by omega), a3, Option.bind_some]
        have hx' : ∀ a, (a < 64 ∨ 69 < a) → x' a = v a := fun a ha => a5 a (by omega) (by omega)
        have hS' := a4 c (fun _ => rfl)
        have hT' : LT B (L ++ [((keyB (wkc Bi c)).1, (keyB (wkc Bi c)).2, (i : Int), c)]) := LT_snoc hT (NOK_sok (hB.wk c2 c3)).1 (by omega) ⟨⟨by show (0 : Int) ≤ i; omega, by show (i : Int) < L.length; omega⟩, c0, by show c < 204; omega⟩
        have hll : (L ++ [((keyB (wkc Bi c)).1, (keyB (wkc Bi c)).2, (i : Int), c)]).length = L.length + 1 := by simp
        have := ih (k + 1) f' x' (L ++ [((keyB (wkc Bi c)).1, (keyB (wkc Bi c)).2, (i : Int), c)]) (by omega) (by omega) ⟨LR_ext (fun i _ => by rw [hx' 78 (by omega)]) (hx' _ (by omega)) (hx' _ (by omega)) (fun a ha => hx' a (by omega)) hLv, FRc_ext (fun a y0 y1 => hx' a (by omega)) b2, FP_ext (hx' _ (by omega)) b3⟩ (AL_ext (hx' 70 (by omega)) hAv) hS' hT' (by omega) (hrv.trans ⟨fun a ha => hx' a (by omega), a6⟩)
        rcases this with ⟨r, y, y1, y2, y3⟩ | ⟨L', y, y1, y2, y3, y4, y5, y6, y7⟩
        · exact Or.inl ⟨r, y, y1, by show (if (1 : Int) = 0 then _ else _) = _; rw [if_neg (by decide)]; exact y2, y3⟩
        · exact Or.inr ⟨L', y, y1, by show (if (1 : Int) = 0 then _ else _) = _; rw [if_neg (by decide)]; exact y2, y3, y4, y5, by omega, y7⟩
    by_cases e : keyB (wkc Bi c) = W
    · left
      obtain ⟨x', t1, t2, t3⟩ := trace_ok (N := N) (x := v) (c := c) hN hSv hT hi
      refine ⟨(((trw L i).length : Int) + 1, trw L i ++ [c]), x', by rw [hdr, hex, if_pos e], ?_, t2, hrv.trans ⟨fun a ha => t3 a (by omega), fun i _ => by rw [t3 64 (by omega)]⟩⟩
      rw [start, if_pos (by rw [e]), if_pos (by rw [e]), t1, Option.bind_some]
    · have := nof e
      rw [start]
      by_cases e1 : (keyB (wkc Bi c)).1 = W.1
      · rw [if_pos e1, if_neg (fun e2 => e (Prod.ext e1 e2))]; exact this
      · rw [if_neg e1]; exact this
theorem find_out {N q : Nat} {W : Int × Int} {s B : iv_M} {m : Int} {ru : Option (List (List (Int × Int)))} (hN : 5000 ≤ N) (hq : q = 9 ∨ q = 31) (hB : WHm m B) (hO : OZ B) : ∀ (n i f : Nat) (x : iv_M) (L : List Nd), i + n = 1501 → n < f → (∃ P, LW x 78 q 71 P ru ∧ Sok m B P) → SC x L → LT B L → Fr s x → ∃ x', FX9_find_l62 N 64 W.1 W.2 (fun (s_1467 : iv_M) => (FX9_find_b238 N s_1467)) f x (i : Int) = some ((bfs ru B W n i L).1, x') ∧ Pth (bfs ru B W n i L).2 x' ∧ Fr s x' := by
  intro n
  induction n with
  | zero =>
    intro i f x L hi hf _ hS hT hr
    obtain ⟨f', rfl⟩ : ∃ f', f = f' + 1 := ⟨f - 1, by omega⟩
    have h1 := hS.1
    have h2 := hS.2.1
    refine ⟨x, ?_, (fun k hk => by cases hk), hr⟩
    rw [FX9_find_l62, if_pos (by omega)]; rfl
  | succ n ih =>
    intro i f x L hi hf hP hS hT hr
    obtain ⟨f', rfl⟩ : ∃ f', f = f' + 1 := ⟨f - 1, by omega⟩
    have h1 := hS.1
    have h2 := hS.2.1
    obtain ⟨P, ⟨p1, p2, p3⟩, pS⟩ := hP
    have hb : bfs ru B W (n + 1) i L = if i < L.length then (match expd W i (layk B (nt L i).1 (nt L i).2.1) (okl ru (layk B (nt L i).1 (nt L i).2.1) 204) L with
      | .inl r => r
      | .inr L' => bfs ru B W n (i + 1) L') else (-2, []) := rfl
    rw [hb]
    by_cases e : i < L.length
    · rw [if_pos e]
      obtain ⟨n1, n2, n3⟩ := hT.1 i e
      obtain ⟨Bi, hBi⟩ : ∃ Bi, Bi = layk B (nt L i).1 (nt L i).2.1 := ⟨_, rfl⟩
      have sB : Sok m B Bi := by rw [hBi]; exact Sok_lay hB hO n1
      rw [← hBi]
      have e4 : Bi 114 = P 114 := by rw [sB.all, pS.all]
      have e5 : Bi 115 = P 115 := by rw [sB.1.2.2.2.1 115 (by omega), pS.1.2.2.2.1 115 (by omega)]
      have hnb : nb Bi = nb P := by funext c d; exact nb_ext (by rw [e4]) (by rw [e4]) c d
      obtain ⟨r1, r2, _⟩ := hS.2.2.1 i e
      have B6 : ∀ j : Int, 0 ≤ j → j < ((Bi 114 2).toNat : Int) → Bi 116 j = un4 (nt L i).1 j := fun j j0 j1 => by rw [hBi]; exact lay_6 j0 (by rw [sB.all] at j1; omega)
      have B7 : ∀ j : Int, 0 ≤ j → j < ((Bi 114 2).toNat : Int) → Bi 117 j = un2 (nt L i).2.1 j := fun j j0 j1 => by rw [hBi]; exact lay_7 j0 (by rw [sB.all] at j1; omega)
      obtain ⟨y, a1, a2, a3, a4⟩ := FX1_arrange_ok (N := N) (q := 71) (s := x) (B := Bi) (y := (nt L i).1) (x := (nt L i).2.1) (by omega) TF_71 sB.1.1.1 (by rw [e4]; exact p2.1) (by rw [e4]; exact p2.2.1) (by rw [e4]; exact p2.2.2.1) (by rw [hnb]; exact p2.2.2.2.2.2.1) (by rw [e4, e5]; exact p2.2.2.2.2.2.2.1) (by rw [pkd_congr _ B6, sB.all]; exact n2) (by rw [pkd_congr _ B7, sB.all]; exact n3)
      have oy : ∀ a, (a < 71 ∨ 76 < a) → y a = x a := fun a ha => by funext i; exact a4 a i ha
      have hLy : LR y 78 q 71 P ru := LR_ext (fun i _ => by rw [oy 78 (by omega)]) (oy _ (by omega)) (oy _ (by omega)) (fun a ha => oy a (by omega)) p1
      obtain ⟨u, k1, k2⟩ := FX3_look_ok (N := N) (B' := Bi) (by omega) (Sp_se hq) hLy (fun j _ => by rw [e4]) (by rw [hLy.2.2.2.2.2.2.1, e4]) (by rw [sB.1.2.2.2.1 118 (by omega), pS.1.2.2.2.1 118 (by omega)]) (by rw [sB.1.2.2.2.1 120 (by omega), pS.1.2.2.2.1 120 (by omega)]) a2 sB.1.1.1
      obtain ⟨z, hz⟩ : ∃ z, z = mu y 78 5 u := ⟨_, rfl⟩
      rw [← hz] at k1 k2
      have oz : ∀ a, a ≠ 78 → z a = y a := fun a ha => by rw [hz, mu_rw ha]
      obtain ⟨w, l1, l2, l3, l4⟩ := FX3_list_ok (N := N) (ql := 78) (qh := q) (qf := 71) (qa := 70) (by omega) (LH_se hq sB.1.1.1 sB.1.1.2.1.1.1 sB.1.1.2.1.1.2) ⟨k2, FRc_ext (fun a y0 y1 => oz a (by omega)) a2, FP_ext (oz _ (by omega)) a3⟩
      have ow : ∀ a, (a < 70 ∨ 79 < a) → w a = x a := fun a ha => by rw [l4.1 a (by omega) (by omega) (by omega) (by omega), oz a (by omega), oy a (by omega)]
      have hSw : SC w L := SC_ext (by rw [ow 64 (by omega)]) (fun a a0 a1 => ow a (by omega)) hS
      have hrw : Fr s w := hr.trans ⟨fun a ha => ow a (by omega), fun i _ => by rw [ow 64 (by omega)]⟩
      have start : FX9_find_l62 N 64 W.1 W.2 (fun (s_1467 : iv_M) => (FX9_find_b238 N s_1467)) (f' + 1) x (i : Int) = FX9_find_l123 N 64 W.1 W.2 (i : Int) ((okl ru Bi 204).length : Int) (fun (s_1480 : iv_M) => (FX9_find_l62 N 64 W.1 W.2 (fun (s_1467 : iv_M) => (FX9_find_b238 N s_1467)) f' s_1480 ((i : Int) + 1))) N w 0 := by
        rw [FX9_find_l62, if_neg (by omega), if_neg (by omega)]
        simp only [Nat.reduceAdd]
        rw [rd_ok (by omega) (by omega), Option.bind_some, rd_ok (by omega) (by omega), Option.bind_some, r1, r2, a1, Option.bind_some, k1, Option.bind_some, l1, Option.bind_some, w32_id (by omega) (by omega)]
      have hlen := okl_stc ru Bi 204
      rw [stc_204] at hlen
      have inn := find_in (N := N) (q := q) (i := i) (W := W) (s := s) (B := B) (Bi := Bi) (m := m) (ru := ru) (kx := fun (s_1480 : iv_M) => (FX9_find_l62 N 64 W.1 W.2 (fun (s_1467 : iv_M) => (FX9_find_b238 N s_1467)) f' s_1480 ((i : Int) + 1))) hN hq sB (okl ru Bi 204).length 0 N w L (by omega) (by omega) l2 l3 hSw hT e hrw
      rw [List.drop_zero] at inn
      rcases inn with ⟨r, x', q1, q2, q3, q4⟩ | ⟨L', x', q1, q2, q3, q4, q5, q6, q7⟩
      · rw [q1]
        exact ⟨x', start.trans q2, q3, q4⟩
      · rw [q1]
        obtain ⟨x2, w1, w2, w3⟩ := ih (i + 1) f' x' L' (by omega) (by omega) ⟨Bi, q3, sB⟩ q4 q5 q7
        refine ⟨x2, ?_, w2, w3⟩
        refine start.trans (q2.trans ?_)
        show FX9_find_l62 N 64 W.1 W.2 _ f' x' ((i : Int) + 1) = _
        rw [show (i : Int) + 1 = ((i + 1 : Nat) : Int) by omega]
        exact w1
    · rw [if_neg e]
      refine ⟨x, ?_, (fun k hk => by cases hk), hr⟩
      rw [FX9_find_l62, if_pos (by omega)]; rfl
def wnt (B : iv_M) (k : Int) : Int × Int := (pkd 4 (dC B k) (B 114 2).toNat, pkd 2 (dT B k) (B 114 2).toNat)
theorem find_ok {N q : Nat} {s x B : iv_M} {m k : Int} {ru : Option (List (List (Int × Int)))} (hN : 5000 ≤ N) (hq : q = 9 ∨ q = 31) (hB : WHm m B) (hO : OZ B) (hL : LW x 78 q 71 B ru) (hr : Fr s x) : ∃ x', FX9_find N x 64 (wnt B k).1 (wnt B k).2 = some ((srch ru B k).1, x') ∧ Pth (srch ru B k).2 x' ∧ Fr s x' := by
  obtain ⟨l1, l2, l3⟩ := hL
  have k1 : x 71 3 = (keyB B).1 := l3.1
  have k2 : x 71 4 = (keyB B).2 := l3.2
  have hs : srch ru B k = if keyB B = wnt B k then (0, []) else bfs ru B (wnt B k) 1501 0 [((keyB B).1, (keyB B).2, -1, -1)] := rfl
  rw [hs]
  unfold FX9_find
  simp only [Nat.reduceAdd]
  rw [k1, k2]
  by_cases e : keyB B = wnt B k
  · rw [if_pos e, if_pos (by rw [e]), if_pos (by rw [e])]
    exact ⟨x, rfl, (fun k hk => by cases hk), hr⟩
  · rw [if_neg e]
    have key : ∃ x', FX9_find_b25 N x 64 (wnt B k).1 (wnt B k).2 = some ((bfs ru B (wnt B k) 1501 0 [((keyB B).1, (keyB B).2, -1, -1)]).1, x') ∧ Pth (bfs ru B (wnt B k) 1501 0 [((keyB B).1, (keyB B).2, -1, -1)]).2 x' ∧ Fr s x' := by
      unfold FX9_find_b25
      simp only [Nat.reduceAdd]
      have fl := fill_ok (N := N) (q := 69) (s := x) (v := 0) (n := 4096) (by decide) (by omega)
      obtain ⟨g, hg⟩ : ∃ g, g = mu (flM x 69 4096 0) 64 4 0 := ⟨_, rfl⟩
      have og : ∀ a, a ≠ 64 → a ≠ 69 → g a = x a := fun a h1 h2 => by rw [hg, mu_rw h1]; funext i; exact fl_ne h2
      have g64 : ∀ i, i ≠ 4 → g 64 i = x 64 i := fun i hi => by rw [hg, mu_ne (by omega)]; exact fl_ne (by omega)
      have hS0 : SC g [] := by
        refine ⟨by rw [hg, mu_eq]; rfl, by show 0 ≤ 1500; omega, (fun j hj => by cases hj), HT_none (fun t t0 t1 => ?_)⟩
        show g 69 t - 1 = -1
        rw [hg, mu_ne (by omega), fl_eq t0 t1]; rfl
      rw [fl, Option.bind_some, pt_ok, Option.bind_some, ← hg, og 71 (by omega) (by omega), k1, k2]
      rcases add_ok (N := N) (x := g) (L := []) (a := (keyB B).1) (b := (keyB B).2) (fr := -1) (w := -1) hN hS0 with ⟨a1, _⟩ | ⟨_, a2, _⟩ | ⟨a1, a2, x1, a3, a4, a5, a6⟩
      · cases a1
      · cases a2
      · rw [a3, Option.bind_some]
        have ox : ∀ a, (a < 64 ∨ 69 < a) → x1 a = x a := fun a ha => by rw [a5 a (by omega) (by omega), og a (by omega) (by omega)]
        have hLx : LW x1 78 q 71 B ru := ⟨LR_ext (fun i _ => by rw [ox 78 (by omega)]) (ox _ (by omega)) (ox _ (by omega)) (fun a ha => ox a (by omega)) l1, FRc_ext (fun a y0 y1 => ox a (by omega)) l2, FP_ext (ox _ (by omega)) l3⟩
        have hSB : Sok m B B := ⟨Lok.refl hB hO, rfl⟩
        have hT1 : LT B [((keyB B).1, (keyB B).2, -1, -1)] := by
          refine ⟨fun j hj => ?_, fun j j0 hj => ?_⟩
          · have : j = 0 := by simp at hj; omega
            subst this
            exact (NOK_sok hSB).1
          · simp at hj; omega
        exact find_out (N := N) hN hq hB hO 1501 0 N x1 [((keyB B).1, (keyB B).2, -1, -1)] (by omega) (by omega) ⟨B, hLx, hSB⟩ (a4 (-1) (fun h => by cases h)) hT1 (hr.trans ⟨fun a ha => ox a (by omega), fun i hi => by rw [a6 i hi, g64 i hi]⟩)
    by_cases e1 : (keyB B).1 = (wnt B k).1
    · rw [if_pos e1, if_neg (fun e2 => e (Prod.ext e1 e2))]; exact key
    · rw [if_neg e1]; exact key
theorem ask_ok {t : Int} {N : Nat} {s : iv_M} {k : Int} {ru : Option (List (List (Int × Int)))} (hN : 5000 ≤ N) (h : Inv t s) (t0 : 0 ≤ t) (t1 : t ≤ 1000) (hd : hdr s k) (hR : RUO s (s 114 12) ru) : ∃ o3 x, FX11_ruleInForce N s 0 = some o3 ∧ FX9_ask_b18 N s 64 (now s) o3 k (s 0 15) = some x ∧ x 64 11 = (srch ru s k).1 ∧ Pth (srch ru s k).2 x ∧ x 64 9 = s 0 15 ∧ x 64 10 = k ∧ ∀ a, (a < 64 ∨ 80 < a) → x a = s a := by
  obtain ⟨h1, h2, h3, h4, h5, h6, h7, h8, h9, h10⟩ := id h
  obtain ⟨m1, m2, m3⟩ := now_ne h1
  have hn := (now_HQ h1).2.1
  have hq : (s 0 4).toNat = now s := rfl
  obtain ⟨d0, d1, d2⟩ := hd
  obtain ⟨p1, p2⟩ := h2.2.2.2.2.1 k d0 d1 d2
  obtain ⟨o3, e1, e2⟩ := ruleIn_ok (N := N) hq h2.1.2.2.2.2.1 h5.2.2.2.1 h5.2.2.1 hR
  obtain ⟨s0, hs0⟩ : ∃ s0, s0 = mu (mu s 64 9 (s 0 15)) 64 10 k := ⟨_, rfl⟩
  have o0 : ∀ a, a ≠ 64 → s0 a = s a := fun a ha => by rw [hs0, mu_rw ha, mu_rw ha]
  obtain ⟨c, c1, c2, c3, c4⟩ := FX1_copyFrom_ok (N := N) (q := 71) (p := now s + 1) (s := s0) (B := s) (by omega) TF_71 h3.1 (by omega) (FRc_ext (fun a z0 z1 => o0 a (by omega)) h2.2.1.1) (FP_ext (o0 _ (by omega)) h2.2.1.2)
  have oc : ∀ a, (a < 71 ∨ 77 < a) → c a = s0 a := fun a ha => by funext i; exact c4 a i ha
  obtain ⟨b, b1, b2, b3⟩ := FX3_open_ok (N := N) (ql := 78) (qh := now s) (qf := 71) (s := c) (B := s) (by omega) (Sp_se hn) (HB_ext (by rw [oc _ (by omega), o0 _ (by omega)]) (by rw [oc _ (by omega), o0 _ (by omega)]) h2.1.2.1) (by rw [oc _ (by omega), o0 _ (by omega)]; exact h2.1.2.2.2.2.2.1) h3.1 c2 (RuX_ext (fun a ha => by rw [oc a (by omega), o0 a (by omega)]) e2)
  have ob : ∀ a, (a < 71 ∨ 78 < a) → b a = s0 a := fun a ha => by rw [b3 a (by omega), oc a (by omega)]
  have hLW : LW b 78 (now s) 71 s ru := ⟨b2, FRc_ext (fun a y0 y1 => b3 a (by omega)) c2, FP_ext (b3 _ (by omega)) c3⟩
  obtain ⟨x, f1, f2, f3⟩ := find_ok (N := N) (s := s0) (x := b) (B := s) (k := k) (ru := ru) hN hn (WH_m.mp h3) h10 hLW ⟨fun a ha => ob a (by omega), fun i _ => by rw [ob 64 (by omega)]⟩
  have f1' : FX9_find N b 64 (s (now s + 14) k) (s (now s + 15) k) = some ((srch ru s k).1, x) := by rw [p1, p2]; exact f1
  refine ⟨o3, mu x 64 11 (srch ru s k).1, e1, ?_, mu_eq, fun j hj => by rw [mu_ne (by omega)]; exact f2 j hj, by rw [mu_ne (by omega), f3.2 9 (by omega), hs0, mu_ne (by omega), mu_eq], by rw [mu_ne (by omega), f3.2 10 (by omega), hs0, mu_eq], fun a ha => by rw [mu_rw (by omega), f3.1 a ha, o0 a (by omega)]⟩
  unfold FX9_ask_b18
  simp only [Nat.reduceAdd]
  rw [pt_ok, Option.bind_some, pt_ok, Option.bind_some, ← hs0, c1, Option.bind_some, b1, Option.bind_some, rd_ok d0 d1, Option.bind_some, rd_ok d0 d1, Option.bind_some, ob _ (by omega), ob _ (by omega), o0 _ (by omega), o0 _ (by omega), f1', Option.bind_some]
  dsimp only
  rw [pt_ok, Option.bind_some]
