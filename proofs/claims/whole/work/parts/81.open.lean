-- LAWS OPENED, and looked at again; walks listed
theorem Inv_bk {t t' : Int} {s s1 s2 B : iv_M} (hI : Inv t s) (ht : t ≤ t') (h0 : ∀ i, i ≠ 15 → s1 0 i = s 0 i) (hc : s 0 15 ≤ s1 0 15 ∧ s1 0 15 ≤ 20 * t') (hrow : ∀ a, (a = 1 ∨ (3 ≤ a ∧ a ≤ 8) ∨ a = 53 ∨ a = 113 ∨ 139 ≤ a) → s1 a = s a) (hH : HR s1 (now s) B) (hW : WH t' B) (hf : B 114 12 < s 0 3) (hO : OZ B) (h2 : ∀ a, (a ≤ 112 ∨ (139 ≤ a ∧ a ≤ 144) ∨ a = 153 ∨ a = 172 ∨ a = 173 ∨ 174 ≤ a) → s2 a = s1 a) (h113 : ∀ i, (i = 28 ∨ i = 32 ∨ i = 37 ∨ i = 56) → s2 113 i = s1 113 i) (hE : Eb B s2) (hm : MeS s2 ∧ MeR s2) : Inv t' s2 := by
  obtain ⟨n1, n2, n3⟩ := now_ne hI.1
  refine Inv_mk hI ht (fun i hi => by rw [h2 0 (by omega), h0 i hi]) (by rw [h2 0 (by omega)]; exact hc) (fun a ha => by rw [h2 a (by omega), hrow a (by omega)]) (fun i hi => by rw [h113 i hi, hrow 113 (by omega)]) (HR_eb hE (HR_ext (fun a x y => h2 a (by omega)) hH)) (WH_eb hE hW) (by rw [hE 114 (by omega) (by omega)]; exact hf) (fun a a0 a1 i hi => by rw [hE a a0 a1]; exact hO a a0 a1 i hi) hm.1 hm.2
/-- the same floor, for walks -/
def Ew (B B' : iv_M) : Prop := B' 114 0 = B 114 0 ∧ B' 114 1 = B 114 1 ∧ B' 114 2 = B 114 2 ∧ B' 115 = B 115 ∧ B' 116 = B 116 ∧ B' 117 = B 117 ∧ B' 121 = B 121
theorem Ew.refl {B : iv_M} : Ew B B := ⟨rfl, rfl, rfl, rfl, rfl, rfl, rfl⟩
theorem Ew.symm {B B' : iv_M} (h : Ew B B') : Ew B' B := by
  obtain ⟨a, b, c, d, e, f, g⟩ := h
  exact ⟨a.symm, b.symm, c.symm, d.symm, e.symm, f.symm, g.symm⟩
theorem Ew.trans {B B' B2 : iv_M} (h : Ew B B') (h2 : Ew B' B2) : Ew B B2 := by
  obtain ⟨a, b, c, d, e, f, g⟩ := h
  obtain ⟨a', b', c', d', e', f', g'⟩ := h2
  exact ⟨a'.trans a, b'.trans b, c'.trans c, d'.trans d, e'.trans e, f'.trans f, g'.trans g⟩
theorem Eb.ew {B B' : iv_M} (h : Eb B B') : Ew B B' := by
  have h4 := h 114 (by omega) (by omega)
  exact ⟨by rw [h4], by rw [h4], by rw [h4], h 115 (by omega) (by omega), h 116 (by omega) (by omega), h 117 (by omega) (by omega), h 121 (by omega) (by omega)⟩
theorem ew_nb {B B' : iv_M} (h : Ew B B') : nb B' = nb B := by funext c d; exact nb_ext h.1 h.2.1 c d
theorem ew_kd {B B' : iv_M} (h : Ew B B') : kd B' = kd B := by
  obtain ⟨a, b, c, d, e, f, g⟩ := h
  funext x y; unfold kd sd; rw [d, f, g]
theorem ew_mm {B B' : iv_M} (h : Ew B B') : mm B' = mm B := by
  have : ed B' = ed B := by funext c d; unfold ed kdn; rw [ew_kd h, ew_nb h]
  unfold mm; rw [this]
theorem ew_Wf {B B' : iv_M} (h : Ew B B') (hW : Wf B) : Wf B' := by
  obtain ⟨a, b, c, d, e, f, g⟩ := h
  obtain ⟨w1, w2, w3⟩ := hW
  refine ⟨?_, ?_, ?_⟩
  · unfold Wa at w1 ⊢; rw [a, b, c, d]; exact w1
  · unfold Wc at w2 ⊢; rw [a, b, c, e, f, g]; exact w2
  · unfold Wr at w3 ⊢; rw [c, e, g]; exact w3
theorem ew_isW {B B' : iv_M} {k r o : Int} (h : Ew B B') (hw : isW B k r o) : isW B' k r o := by
  unfold isW at hw ⊢; rw [h.2.2.1]; exact hw
theorem ew_slO {B B' : iv_M} {k r o : Int} (h : Ew B B') (hw : slO B k r o) : slO B' k r o := by
  unfold slO at hw ⊢; rw [ew_nb h, h.2.2.2.2.1, h.2.2.2.2.2.2]; exact hw
theorem ew_FRc {s B B' : iv_M} {q : Nat} (h : Ew B B') (hF : FRc s q B) : FRc s q B' := by
  have hk := ew_kd h
  have hn := ew_nb h
  obtain ⟨a, b, c, d, e, f, g⟩ := h
  unfold FRc at hF ⊢
  rw [hk, hn, a, b, c, d, f, g]; exact hF
theorem ew_FP {s B B' : iv_M} {q : Nat} (h : Ew B B') (hF : FP s q B) : FP s q B' := by
  obtain ⟨a, b, c, d, e, f, g⟩ := h
  unfold FP at hF ⊢
  rw [c, e, f]; exact hF
theorem ew_wlk {B B' : iv_M} {k r o : Int} (h : Ew B B') : Ew (wlk B k r o) (wlk B' k r o) := by
  have hn := ew_nb h
  obtain ⟨a, b, c, d, e, f, g⟩ := h
  refine ⟨by rw [wlk_o (by omega) (by omega) (by omega), wlk_o (by omega) (by omega) (by omega), a], by rw [wlk_o (by omega) (by omega) (by omega), wlk_o (by omega) (by omega) (by omega), b], by rw [wlk_o (by omega) (by omega) (by omega), wlk_o (by omega) (by omega) (by omega), c], by funext i; rw [wlk_o (by omega) (by omega) (by omega), wlk_o (by omega) (by omega) (by omega), d], ?_, ?_, ?_⟩
  all_goals
    unfold wlk
    rw [hn, e]
    by_cases e1 : k = 1
    · rw [if_pos e1, if_pos e1]
      funext i
      first | rw [wS_6, wS_6, e] | rw [wS_1, wS_1, e, g] | rw [wS_o (by omega) (by omega), wS_o (by omega) (by omega), f]
    · rw [if_neg e1, if_neg e1]
      by_cases e2 : k = 2
      · rw [if_pos e2, if_pos e2]
        funext i
        first | rw [wC_6, wC_6, e] | rw [wC_1, wC_1, e, g] | rw [wC_o (by omega) (by omega), wC_o (by omega) (by omega), f]
      · rw [if_neg e2, if_neg e2]
        funext i
        first | rw [wT_7, wT_7, f] | rw [wT_o (by omega), wT_o (by omega), e] | rw [wT_o (by omega), wT_o (by omega), g]
-- a rule in force
def RuX (s : iv_M) (o3 : Int) (ru : Option (List (List (Int × Int)))) : Prop := (ru = none ∧ o3 = -1) ∨ ∃ f R, 0 ≤ f ∧ f < 6 ∧ ru = some R ∧ o3 = 3 + f ∧ RUL s f R
theorem ruleIn_ok {N q : Nat} {s : iv_M} {f : Int} {ru : Option (List (List (Int × Int)))} (hq : (s 0 4).toNat = q) (h5 : s q 5 = f) (h3 : f < s 0 3) (h6 : s 0 3 ≤ 6) (hR : RUO s f ru) : ∃ o3, FX11_ruleInForce N s 0 = some o3 ∧ RuX s o3 ru := by
  unfold FX11_ruleInForce FX11_ruleInForce_b39
  rw [hq, h5]
  rcases hR with ⟨e1, e2⟩ | ⟨e1, e2, R, e3, e4⟩
  · refine ⟨-1, ?_, Or.inl ⟨e2, rfl⟩⟩
    rw [if_pos (by omega)]
  · refine ⟨3 + f, ?_, Or.inr ⟨f, R, e1, e2, e3, rfl, e4⟩⟩
    rw [if_neg (by omega), if_neg (by omega)]
    unfold gx
    rw [if_pos ⟨e1, by omega⟩, Option.bind_some]
    congr 1
    omega
theorem RuX_ext {s s' : iv_M} {o3 : Int} {ru : Option (List (List (Int × Int)))} (h : ∀ a, (140 ≤ a ∧ a ≤ 144) ∨ (3 ≤ a ∧ a ≤ 8) → s' a = s a) (hR : RuX s o3 ru) : RuX s' o3 ru := by
  rcases hR with z | ⟨f, R, e1, e2, e3, e4, e5⟩
  · exact Or.inl z
  · exact Or.inr ⟨f, R, e1, e2, e3, e4, RUL_ext (h 140 (by omega)) (h 141 (by omega)) (h 142 (by omega)) (h 143 (by omega)) (h 144 (by omega)) (h _ (by omega)) e5⟩
theorem FX3_look_ok {N ql qh qf : Nat} {s B B' : iv_M} {ru : Option (List (List (Int × Int)))} (hN : 10 ≤ N) (hS : Sp ql qh qf) (hL : LR s ql qh qf B ru) (h114 : ∀ j, j ≠ 6 → B' 114 j = B 114 j) (h6 : s ql 4 = B' 114 6) (h118 : B' 118 = B 118) (h120 : B' 120 = B 120) (hF : FRc s qf B') (hW : Wf B') : ∃ v, FX3_look N s ql = some (mu s ql 5 v) ∧ LR (mu s ql 5 v) ql qh qf B' ru := by
  obtain ⟨l0, l1, l2, l3, l4, l5, l6, l7⟩ := hL
  obtain ⟨p1, p2, p3, p4, p5, p6, p7⟩ := Sp_f hS
  have hcn : cnt B' ru ↔ cnt B ru := by unfold cnt; rw [h114 5 (by omega)]
  have hHB : HB s qh B' := by unfold HB at l2 ⊢; rw [h114 4 (by omega), h114 3 (by omega), h114 2 (by omega), h114 5 (by omega), h118, h120]; exact l2
  have key : ∀ v, (cnt B' ru → v = mm B') → LR (mu s ql 5 v) ql qh qf B' ru := fun v hv => by
    refine ⟨by rw [mu_ne (by omega)]; exact l0, by rw [mu_ne (by omega)]; exact l1, HB_ext (mu_rw (by omega)) (mu_rw (by omega)) hHB, ?_, by rw [mu_ne (by omega)]; exact l4, by rw [mu_ne (by omega), hcn]; exact l5, by rw [mu_ne (by omega)]; exact h6, fun hc => by rw [mu_eq]; exact hv hc⟩
    rcases l3 with ⟨z1, z2⟩ | ⟨f, R, z1, z2, z3, z4, z5⟩
    · exact Or.inl ⟨z1, by rw [mu_ne (by omega)]; exact z2⟩
    · refine Or.inr ⟨f, R, z1, z2, z3, by rw [mu_ne (by omega)]; exact z4, ?_⟩
      have hq8 : ∀ a, (140 ≤ a ∧ a ≤ 144) ∨ (3 ≤ a ∧ a ≤ 8) → mu s ql 5 v a = s a := fun a ha => mu_rw (by unfold Sp at hS; omega)
      exact RUL_ext (hq8 140 (by omega)) (hq8 141 (by omega)) (hq8 142 (by omega)) (hq8 143 (by omega)) (hq8 144 (by omega)) (hq8 _ (by omega)) z5
  unfold FX3_look FX3_look_b25 FX3_look_b26
  by_cases c : cnt B' ru
  · have e3 : s ql 3 = 1 := l5.mpr (hcn.mp c)
    rw [e3, if_neg (by omega), l1, if_neg (by omega), if_neg (by omega), Int.toNat_natCast, FX1_mismatches_ok hF hW.1 hW.2.1 hN, Option.bind_some, pt_ok, Option.bind_some]
    exact ⟨mm B', rfl, key _ (fun _ => rfl)⟩
  · have e3 : s ql 3 = 0 := by
      rcases l4 with z | z
      · exact z
      · exact absurd (hcn.mpr (l5.mp z)) c
    rw [if_pos e3, pt_ok, Option.bind_some]
    exact ⟨0, rfl, key _ (fun h => absurd h c)⟩
theorem FX3_open_ok {N ql qh qf : Nat} {s B : iv_M} {o3 : Int} {ru : Option (List (List (Int × Int)))} (hN : 10 ≤ N) (hS : Sp ql qh qf) (hH : HB s qh B) (h6 : s qh 6 = B 114 6) (hW : Wf B) (hF : FRc s qf B) (hR : RuX s o3 ru) : ∃ s', FX3_open N s ql qh qf o3 = some s' ∧ LR s' ql qh qf B ru ∧ ∀ a, a ≠ ql → s' a = s a := by
  obtain ⟨p1, p2, p3, p4, p5, p6, p7⟩ := Sp_f hS
  obtain ⟨s1, hs1⟩ : ∃ s1, s1 = mu (mu (mu s ql 0 (qh : Int)) ql 1 (qf : Int)) ql 2 o3 := ⟨_, rfl⟩
  have o1 : ∀ a, a ≠ ql → s1 a = s a := fun a ha => by rw [hs1, mu_rw ha, mu_rw ha, mu_rw ha]
  have main : ∀ g : Int, (g = 0 ∨ g = 1) → (g = 1 ↔ cnt B ru) → ∃ s', FX3_open_b32 N s1 ql qh g ql = some s' ∧ LR s' ql qh qf B ru ∧ ∀ a, a ≠ ql → s' a = s a := by
    intro g hg hgc
    unfold FX3_open_b32
    rw [if_pos hg, pt_ok, Option.bind_some, pt_ok, Option.bind_some, mu_ne (by omega), o1 qh p4, h6]
    obtain ⟨s3, hs3⟩ : ∃ s3, s3 = mu (mu s1 ql 3 g) ql 4 (B 114 6) := ⟨_, rfl⟩
    have o3' : ∀ a, a ≠ ql → s3 a = s a := fun a ha => by rw [hs3, mu_rw ha, mu_rw ha, o1 a ha]
    rw [← hs3]
    have k0 : s3 ql 0 = qh := by rw [hs3, hs1]; simp (disch := omega) only [mu_ne, mu_eq]
    have k1 : s3 ql 1 = qf := by rw [hs3, hs1]; simp (disch := omega) only [mu_ne, mu_eq]
    have k2 : s3 ql 2 = o3 := by rw [hs3, hs1]; simp (disch := omega) only [mu_ne, mu_eq]
    have k3 : s3 ql 3 = g := by rw [hs3]; simp (disch := omega) only [mu_ne, mu_eq]
    have k4 : s3 ql 4 = B 114 6 := by rw [hs3, mu_eq]
    have hF3 : FRc s3 qf B := FRc_ext (fun a z0 z1 => o3' a (Sp_q hS z0 z1).1) hF
    have hH3 : HB s3 qh B := HB_ext (o3' _ p4) (o3' _ p6) hH
    have hR3 : RuX s3 o3 ru := RuX_ext (fun a ha => o3' a (by unfold Sp at hS; omega)) hR
    have fin : ∀ v, (cnt B ru → v = mm B) → LR (mu s3 ql 5 v) ql qh qf B ru := fun v hv => by
      refine ⟨by rw [mu_ne (by omega)]; exact k0, by rw [mu_ne (by omega)]; exact k1, HB_ext (mu_rw (by omega)) (mu_rw (by omega)) hH3, ?_, by rw [mu_ne (by omega), k3]; exact hg, by rw [mu_ne (by omega), k3]; exact hgc, by rw [mu_ne (by omega)]; exact k4, fun hc => by rw [mu_eq]; exact hv hc⟩
      have hq8 : ∀ a, (140 ≤ a ∧ a ≤ 144) ∨ (3 ≤ a ∧ a ≤ 8) → mu s3 ql 5 v a = s3 a := fun a ha => mu_rw (by unfold Sp at hS; omega)
      have := RuX_ext hq8 hR3
      unfold RuS
      rw [mu_ne (by omega), k2]
      exact this
    have oo : ∀ v a, a ≠ ql → mu s3 ql 5 v a = s a := fun v a ha => by rw [mu_rw ha, o3' a ha]
    unfold FX3_look FX3_look_b25 FX3_look_b26
    rw [k3]
    by_cases c : cnt B ru
    · have eg : g = 1 := hgc.mpr c
      rw [if_neg (by omega), k1, if_neg (by omega), if_neg (by omega), Int.toNat_natCast, FX1_mismatches_ok hF3 hW.1 hW.2.1 hN, Option.bind_some, pt_ok, Option.bind_some, Option.bind_some]
      exact ⟨_, rfl, fin _ (fun _ => rfl), oo _⟩
    · have eg : g = 0 := by
        rcases hg with z | z
        · exact z
        · exact absurd (hgc.mp z) c
      rw [if_pos eg, pt_ok, Option.bind_some, Option.bind_some]
      exact ⟨_, rfl, fin _ (fun h => absurd h c), oo _⟩
  unfold FX3_open FX3_open_b27
  rw [pt_ok, Option.bind_some, pt_ok, Option.bind_some, pt_ok, Option.bind_some, ← hs1, o1 qh p4, hH.2.2.2.1]
  by_cases e1 : B 114 5 = 0
  · rw [if_pos e1]
    rcases hR with ⟨z1, z2⟩ | ⟨f, R, z1, z2, z3, z4, z5⟩
    · rw [if_pos (by omega)]
      refine main 0 (Or.inl rfl) ⟨fun h => absurd h (by omega), fun h => ?_⟩
      rcases h with h | h
      · exact absurd e1 h
      · exact absurd z1 h
    · rw [if_neg (by omega)]
      exact main 1 (Or.inr rfl) ⟨fun _ => Or.inr (by rw [z3]; exact fun h => by cases h), fun _ => rfl⟩
  · rw [if_neg e1]
    exact main 1 (Or.inr rfl) ⟨fun _ => Or.inl e1, fun _ => rfl⟩
/-- where the laws of the face lie -/
theorem Sp_face {q : Nat} (h : q = 9 ∨ q = 31) : Sp 62 q (q + 1) := by unfold Sp; omega
theorem LH_face {q : Nat} {B : iv_M} (h : q = 9 ∨ q = 31) (hW : Wf B) (p0 : 0 ≤ B 114 3) (p1 : B 114 3 ≤ 6) : LH 62 q (q + 1) 112 B := by
  have hQ := HQ_TF (q := q) (by unfold HQ; omega)
  refine ⟨Sp_face h, hQ.1, hQ.2, by decide, hW, p0, p1, by omega, by omega, by omega, by omega, by omega, by omega, by omega, by decide⟩
/-- the face's laws, opened over the house that stands for the block -/
theorem open_face {N q : Nat} {s B : iv_M} {ru : Option (List (List (Int × Int)))} (hN : 10 ≤ N) (hq : (s 0 4).toNat = q) (h : q = 9 ∨ q = 31) (hH : HR1 s q B) (hW : Wf B) (hF : FRc s (q + 1) B) (h3 : B 114 12 < s 0 3) (h6 : s 0 3 ≤ 6) (hR : RUO s (B 114 12) ru) : ∃ o3 s', FX11_ruleInForce N s 0 = some o3 ∧ FX3_open N s 62 q (q + 1) o3 = some s' ∧ LR s' 62 q (q + 1) B ru ∧ ∀ a, a ≠ 62 → s' a = s a := by
  obtain ⟨o3, e1, e2⟩ := ruleIn_ok (N := N) hq hH.2.2.2.2.1 h3 h6 hR
  obtain ⟨s', e3, e4, e5⟩ := FX3_open_ok hN (Sp_face h) hH.2.1 hH.2.2.2.2.2.1 hW hF e2
  exact ⟨o3, s', e1, e3, e4, e5⟩
theorem Inv_law {t t' : Int} {s s1 s2 : iv_M} (hI : Inv t s) (ht : t ≤ t') (ro : ∀ a, (a < now s + 1 ∨ now s + 6 < a) → a ≠ 62 → a ≠ 63 → a ≠ 112 → s1 a = s a) (hF : FRc s1 (now s + 1) s) (hP : FP s1 (now s + 1) s) (hS : Scr s1 s2) : Inv t' s2 := by
  obtain ⟨h1, h2, h3, h4, h5, h6, h7, h8, h9, h10⟩ := id hI
  obtain ⟨n1, n2, n3⟩ := now_ne h1
  have hE : Eb s s2 := fun a z0 z1 => by rw [hS.1 a (by omega) (by omega) (by omega), ro a (by omega) (by omega) (by omega) (by omega)]
  have h15 := h9.1
  have e0 : s1 0 = s 0 := ro 0 (by omega) (by omega) (by omega) (by omega)
  refine Inv_bk hI ht (fun i _ => by rw [e0]) (by rw [e0]; omega) (fun a ha => ro a (by omega) (by omega) (by omega) (by omega)) ⟨HR1_ext (ro _ (by omega) (by omega) (by omega) (by omega)) (ro _ (by omega) (by omega) (by omega) (by omega)) h2.1, ⟨hF, hP⟩, ?_, ?_, ?_, ?_⟩ (WH_mono ht h3) h5.2.2.2.1 h10 (fun a ha => hS.1 a (by omega) (by omega) (by omega)) (fun i hi => hS.2 i (by omega) (by omega) (by omega)) hE (Me_er (Er.of_eb hE) (fun a ha => by rw [hS.1 a (by omega) (by omega) (by omega), ro a (by omega) (by omega) (by omega) (by omega)]) (by rw [hS.1 0 (by omega) (by omega) (by omega), e0]) ⟨h7, h8⟩)
  · have := h2.2.2.1; unfold HR3 at this ⊢; rw [ro (now s + 8) (by omega) (by omega) (by omega) (by omega)]; exact this
  · have := h2.2.2.2.1; unfold HR4 at this ⊢; rw [ro (now s + 10) (by omega) (by omega) (by omega) (by omega), ro (now s + 11) (by omega) (by omega) (by omega) (by omega), ro (now s + 12) (by omega) (by omega) (by omega) (by omega), ro (now s + 13) (by omega) (by omega) (by omega) (by omega)]; exact this
  · have := h2.2.2.2.2.1; unfold HR5 at this ⊢; rw [ro (now s + 14) (by omega) (by omega) (by omega) (by omega), ro (now s + 15) (by omega) (by omega) (by omega) (by omega)]; exact this
  · have := h2.2.2.2.2.2; unfold HR6 at this ⊢; rw [ro (now s + 16) (by omega) (by omega) (by omega) (by omega), ro (now s + 17) (by omega) (by omega) (by omega) (by omega), ro (now s + 18) (by omega) (by omega) (by omega) (by omega), ro (now s + 19) (by omega) (by omega) (by omega) (by omega), ro (now s + 20) (by omega) (by omega) (by omega) (by omega), ro (now s + 21) (by omega) (by omega) (by omega) (by omega)]; exact this
theorem Inv.refL {t : Int} {s s1 : iv_M} {ru : Option (List (List (Int × Int)))} (h : Inv t s) (hR : RUO s (s 114 12) ru) (ro : ∀ a, (114 ≤ a ∧ a ≤ 131) ∨ (140 ≤ a ∧ a ≤ 144) ∨ (3 ≤ a ∧ a ≤ 8) → s1 a = s a) : RefL s1 ru := by
  have e : Eb s s1 := fun a z0 z1 => ro a (by omega)
  refine ⟨eb_Wf e h.2.2.1.1, ?_, ?_⟩
  · rw [e 114 (by omega) (by omega)]; exact h.2.2.1.2.1.1
  · rw [e 114 (by omega) (by omega)]; exact RUO_ext (fun a ha => ro a (by omega)) hR
theorem listWalks_ok {t : Int} {N : Nat} {s : iv_M} {ru : Option (List (List (Int × Int)))} (hN : 1000 ≤ N) (h : Inv t s) (hR : RUO s (s 114 12) ru) : ∃ s1, FX11_listWalks N s 0 = some (((okl ru s 204).length : Int), s1) ∧ FRc s1 (now s + 1) s ∧ FP s1 (now s + 1) s ∧ AL s1 112 (okl ru s 204) ∧ ∀ a, (a < now s + 1 ∨ now s + 6 < a) → a ≠ 62 → a ≠ 63 → a ≠ 112 → s1 a = s a := by
  obtain ⟨h1, ⟨hr1, ⟨hF, hP⟩, _⟩, ⟨hW, ⟨pp, _⟩, _⟩, _, h5, _⟩ := h
  obtain ⟨n1, n2, n3⟩ := now_ne h1
  have hn := (now_HQ h1).2.1
  have hq : (s 0 4).toNat = now s := rfl
  obtain ⟨o3, s', e1, e2, e3, e4⟩ := open_face (N := N) (q := now s) (by omega) hq hn hr1 hW hF h5.2.2.2.1 h5.2.2.1 hR
  have hF' : FRc s' (now s + 1) s := FRc_ext (fun a z0 z1 => e4 a (by omega)) hF
  have hP' : FP s' (now s + 1) s := FP_ext (e4 _ (by omega)) hP
  obtain ⟨s1, f1, f2, f3, f4⟩ := FX3_list_ok hN (LH_face hn hW pp.1 pp.2) ⟨e3, hF', hP'⟩
  refine ⟨s1, ?_, f2.2.1, f2.2.2, f3, fun a z0 z1 z2 z3 => ?_⟩
  · unfold FX11_listWalks
    simp only [Nat.reduceAdd]
    rw [e1, Option.bind_some, hq, e2, Option.bind_some, f1, Option.bind_some]
  · rw [f4.1 a (by omega) z1 (by omega) z3, e4 a z1]
theorem ct_can {t : Int} {N : Nat} {s : iv_M} (hN : 1000 ≤ N) (h : Inv t s) : ∃ a s1 s2, FX11_can N s 0 = some (a, s1) ∧ FX12_can N s1 113 = some (a, s2) ∧ Inv (t + 1) s2 := by
  have hI := h
  obtain ⟨h1, ⟨hr1, ⟨hF, hP⟩, _⟩, ⟨hW, ⟨pp, _, _, _, _, _, _, _, _, p12, _⟩, _⟩, _, h5, _⟩ := h
  obtain ⟨n1, n2, n3⟩ := now_ne h1
  have hq : (s 0 4).toNat = now s := rfl
  have hto := HR1_told hr1
  by_cases e0 : s (now s) 0 = 0
  · refine ⟨-1, s, s, ?_, ?_, HR1_mono (by omega) hI⟩
    · unfold FX11_can FX11_can_b18; rw [hq, if_pos e0]
    · unfold FX12_can FX12_can_b15; rw [told_ref, Option.bind_some, if_neg (hto.mp e0), if_pos rfl]
  · have hp : 0 < s 114 0 := by
      by_cases z : 0 < s 114 0
      · exact z
      · exact absurd (hto.mpr z) e0
    obtain ⟨ru, hR⟩ := Rl_RUO h5 p12
    obtain ⟨s1, f1, f2, f3, f4, f5⟩ := listWalks_ok (N := N) hN hI hR
    have hb : Eb s s1 := fun a z0 z1 => f5 a (by omega) (by omega) (by omega) (by omega)
    obtain ⟨s2, g1, g2⟩ := FX12_canNow_ok (N := N) (s := s1) hN (Inv.refL hI hR (fun a ha => f5 a (by omega) (by omega) (by omega) (by omega)))
    refine ⟨((okl ru s 204).length : Int), s1, s2, ?_, ?_, Inv_law hI (by omega) f5 f2 f3 g2⟩
    · unfold FX11_can FX11_can_b18; rw [hq, if_neg e0, f1, Option.bind_some]
    · unfold FX12_can FX12_can_b15; rw [told_ref, Option.bind_some, hb 114 (by omega) (by omega), if_pos hp, if_neg (by omega), g1, Option.bind_some, eb_okl hb]
theorem okl_mem {ru : Option (List (List (Int × Int)))} {B : iv_M} : ∀ (n : Nat) (c : Int), c ∈ okl ru B n → 0 ≤ c ∧ c < n ∧ okc ru B c := by
  intro n
  induction n with
  | zero => intro c h; simp [okl] at h
  | succ n ih =>
    intro c h
    unfold okl at h
    split at h
    · next e =>
      rcases List.mem_append.mp h with z | z
      · obtain ⟨a, b, d⟩ := ih c z; exact ⟨a, by omega, d⟩
      · rw [List.mem_singleton] at z; subst z; exact ⟨by omega, by omega, e⟩
    · obtain ⟨a, b, d⟩ := ih c h; exact ⟨a, by omega, d⟩
theorem gd_def {l : List Int} {k : Nat} {d d' : Int} (h : k < l.length) : l.getD k d = l.getD k d' := by
  rw [List.getD_eq_getElem?_getD, List.getD_eq_getElem?_getD, List.getElem?_eq_getElem h]; rfl
theorem ct_choice {t : Int} {N : Nat} {s : iv_M} {x y : Int} (hN : 1000 ≤ N) (h : Inv t s) : ∃ a s1 s2, FX11_choice N s 0 x y = some (a, s1) ∧ FX12_choice N s1 113 x y = some (a, s2) ∧ Inv (t + 1) s2 := by
  have hI := h
  obtain ⟨h1, ⟨hr1, ⟨hF, hP⟩, _⟩, ⟨hW, ⟨pp, _, _, _, _, _, _, _, _, p12, _⟩, _⟩, _, h5, _⟩ := h
  obtain ⟨n1, n2, n3⟩ := now_ne h1
  have hq : (s 0 4).toNat = now s := rfl
  have hto := HR1_told hr1
  by_cases C : 0 < s 114 0 ∧ 0 ≤ x ∧ (0 ≤ y ∧ y ≤ 3)
  rotate_left
  · refine ⟨-1, s, s, ?_, ?_, HR1_mono (by omega) hI⟩
    · unfold FX11_choice FX11_choice_b31
      rw [hq]
      by_cases e0 : s (now s) 0 = 0
      · rw [if_pos e0]
      rw [if_neg e0]
      by_cases e1 : x < 0
      · rw [if_pos e1]
      rw [if_neg e1]
      by_cases e2 : y < 0
      · rw [if_pos e2]
      rw [if_neg e2, if_pos (by
        by_cases e3 : 3 < y
        · exact e3
        · exact absurd ⟨(by
            by_cases z : 0 < s 114 0
            · exact z
            · exact absurd (hto.mpr z) e0), by omega, by omega, by omega⟩ C)]
    · unfold FX12_choice FX12_choice_b23
      rw [told_ref, Option.bind_some]
      by_cases e0 : 0 < s 114 0
      · rw [if_pos e0, if_neg (by omega)]
        by_cases e1 : x < 0
        · rw [if_pos e1]
        rw [if_neg e1, FX12_in_ok, Option.bind_some, if_neg (show ¬ (0 ≤ y ∧ y ≤ 3) from fun z => C ⟨e0, by omega, z⟩), if_pos rfl]
      · rw [if_neg e0, if_pos rfl]
  obtain ⟨hp, c1, c2⟩ := C
  have e0 : ¬ s (now s) 0 = 0 := fun z => hto.mp z hp
  obtain ⟨ru, hR⟩ := Rl_RUO h5 p12
  obtain ⟨s1, f1, f2, f3, f4, f5⟩ := listWalks_ok (N := N) hN hI hR
  have hb : Eb s s1 := fun a z0 z1 => f5 a (by omega) (by omega) (by omega) (by omega)
  have hrf : ∀ s2, (∀ a, (114 ≤ a ∧ a ≤ 131) ∨ (140 ≤ a ∧ a ≤ 144) ∨ (3 ≤ a ∧ a ≤ 8) → s2 a = s1 a) → RefL s2 ru := fun s2 h2 => Inv.refL hI hR (fun a ha => by rw [h2 a ha]; exact f5 a (by omega) (by omega) (by omega) (by omega))
  have hq1 : (s1 0 4).toNat = now s := by rw [f5 0 (by omega) (by omega) (by omega) (by omega)]; rfl
  have hcl : FX11_choice N s 0 x y = (if x < ((okl ru s 204).length : Int) then (if 3 ≤ y then ((FX1_mismatches N s1 ((s1 0 4).toNat + 1)).bind fun v_1982 => ((rd s1 112 126 x).bind fun v_1983 => ((FX1_gain N s1 ((s1 0 4).toNat + 1) v_1983).bind fun r_1984 => (fun (v_1984 : Int) (s_1985 : iv_M) => (some ((w32 (v_1982 + v_1984)), s_1985))) r_1984.1 r_1984.2))) else ((rd s1 112 126 x).bind fun v_1986 => ((FX11_partOf N s1 v_1986 y).bind fun v_1987 => (some (v_1987, s1))))) else (FX11_choice_b31 N s1)) := by
    unfold FX11_choice
    simp only [Nat.reduceAdd]
    rw [hq, if_neg e0, if_neg (by omega), if_neg (by omega), if_neg (by omega), f1, Option.bind_some]
  have hre : ∀ s2, s2 114 = s 114 → FX12_choice N s2 113 x y = ((FX12_codeAt N s2 113 x).bind fun r_3335 => (fun (v_3335 : Int) (s_3336 : iv_M) => (if v_3335 = (-1) then (some ((-1), s_3336)) else (if y = 3 then (FX12_choice_b55 N s_3336 (s_3336 113 48)) else ((FX12_part N s_3336 v_3335 y).bind fun v_3339 => (FX12_choice_b55 N s_3336 v_3339))))) r_3335.1 r_3335.2) := fun s2 h2 => by
    unfold FX12_choice
    rw [told_ref, Option.bind_some, h2, if_pos hp, if_neg (by omega), if_neg (by omega), FX12_in_ok, Option.bind_some, if_pos c2, if_neg (by omega)]
  by_cases c3 : x < ((okl ru s 204).length : Int)
  · obtain ⟨c, hc⟩ : ∃ c, c = (okl ru s 204).getD x.toNat 0 := ⟨_, rfl⟩
    have hxl : x.toNat < (okl ru s 204).length := by omega
    have hcm : c ∈ okl ru s 204 := by rw [hc]; exact gd_mem hxl
    obtain ⟨k0, k1, kth, klw⟩ := okl_mem 204 c hcm
    have hlen := okl_stc ru s 204
    rw [stc_204] at hlen
    have hgd : (okl ru s 204).getD x.toNat (-1) = c := by
      rw [hc]; exact gd_def hxl
    have hrow : s1 112 x = wcd c := by
      have := f4 x.toNat hxl
      rw [Int.toNat_of_nonneg c1] at this
      rw [this, hc]
    have hiw := thr_isW k0 (by omega) kth
    have hcn := lwf_cn klw
    obtain ⟨q1, q2, q3, q4, q5, q6, q7, q8⟩ := cc_rng k0 (show c < 204 by omega)
    by_cases c4 : 3 ≤ y
    · have hQ := HQ_TF (now_HQ h1).1
      obtain ⟨s2, g1, g2, g3, g4⟩ := FX1_gain_ok (N := N) (by omega) hQ.1 hW f2 f3 hiw hcn
      obtain ⟨s3, r1, r2, r3⟩ := FX12_codeAt_ok (N := N) (s := s2) (k := x) hN (hrf s2 (fun a ha => by funext i; exact g4 a i (by omega))) c1
      have hb2 : Eb s s2 := fun a z0 z1 => by
        funext i; rw [g4 a i (by omega), hb a z0 z1]
      rw [eb_okl hb2] at r1 r3
      have hmm := r3 c3
      rw [hgd] at r1 hmm
      have m1 := mm_bd s
      have m2 := mm_bd (wlk s (cK c) (cR c) (cO c))
      refine ⟨mm (wlk s (cK c) (cR c) (cO c)), s2, s3, ?_, ?_, Inv_law hI (by omega) (fun a z0 z1 z2 z3 => ?_) g2 g3 r2⟩
      · rw [hcl, if_pos c3, if_pos c4, hq1, FX1_mismatches_ok f2 hW.1 hW.2.1 (by omega), Option.bind_some, rd_ok c1 (by omega), Option.bind_some, hrow]
        unfold wcd
        rw [g1, Option.bind_some]
        show some (w32 (mm s + (mm (wlk s (cK c) (cR c) (cO c)) - mm s)), s2) = _
        rw [w32_id (by omega) (by omega)]
        congr 2; omega
      · rw [hre s2 (hb2 114 (by omega) (by omega)), r1, Option.bind_some]
        unfold FX12_choice_b55
        dsimp only
        rw [if_neg (by omega), if_pos (by omega), hmm, eb_mm (eb_wlk hb2)]
      · funext i; rw [g4 a i (by omega), f5 a z0 z1 z2 z3]
    · obtain ⟨s3, r1, r2, r3⟩ := FX12_codeAt_ok (N := N) (s := s1) (k := x) hN (hrf s1 (fun a ha => rfl)) c1
      rw [eb_okl hb, hgd] at r1
      obtain ⟨w1, w2, w3⟩ := wcode (k := cK c) (r := cR c) (o := cO c) (by omega) (by omega) (by omega) (by omega) (by omega) (by omega)
      refine ⟨if y = 0 then cK c else if y = 1 then cR c else cO c, s1, s3, ?_, ?_, Inv_law hI (by omega) f5 f2 f3 r2⟩
      · rw [hcl, if_pos c3, if_neg c4, rd_ok c1 (by omega), Option.bind_some, hrow]
        unfold wcd FX11_partOf FX11_partOf_b27
        rw [w1, w2, w3]
        by_cases y0 : y = 0
        · rw [if_pos y0, if_pos y0, Option.bind_some]
        · rw [if_neg y0, if_neg y0]
          by_cases y1 : y = 1
          · rw [if_pos y1, if_pos y1, Option.bind_some]
          · rw [if_neg y1, if_neg y1, Option.bind_some]
      · rw [hre s1 (hb 114 (by omega) (by omega)), r1, Option.bind_some]
        unfold FX12_choice_b55
        dsimp only
        rw [if_neg (by omega), if_neg (by omega), FX12_part_ok k0 (by omega), Option.bind_some]
  · obtain ⟨s3, r1, r2, r3⟩ := FX12_codeAt_ok (N := N) (s := s1) (k := x) hN (hrf s1 (fun a ha => rfl)) c1
    rw [eb_okl hb, gd_no (by omega)] at r1
    refine ⟨-1, s1, s3, ?_, ?_, Inv_law hI (by omega) f5 f2 f3 r2⟩
    · rw [hcl, if_neg c3]; rfl
    · rw [hre s1 (hb 114 (by omega) (by omega)), r1, Option.bind_some]
      exact if_pos rfl
