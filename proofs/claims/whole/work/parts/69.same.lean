-- BLOCKS THAT ARE THE SAME FOR THE DEAR QUESTIONS
def Er (B B' : iv_M) : Prop := (∀ a : Nat, ((115 ≤ a ∧ a ≤ 121) ∨ a = 123 ∨ a = 130 ∨ a = 131) → B' a = B a) ∧ ∀ j : Int, j ≠ 7 → j ≠ 8 → j ≠ 9 → j ≠ 13 → B' 114 j = B 114 j
theorem Er.of_eb {B B' : iv_M} (h : Eb B B') : Er B B' := ⟨fun a ha => h a (by omega) (by omega), fun j _ _ _ _ => by rw [h 114 (by omega) (by omega)]⟩
theorem Er.sc {B B' : iv_M} (h : Er B B') : B' 114 0 = B 114 0 ∧ B' 114 1 = B 114 1 ∧ B' 114 2 = B 114 2 ∧ B' 114 3 = B 114 3 ∧ B' 114 4 = B 114 4 ∧ B' 114 5 = B 114 5 ∧ B' 114 6 = B 114 6 ∧ B' 114 10 = B 114 10 ∧ B' 114 11 = B 114 11 ∧ B' 114 12 = B 114 12 :=
  ⟨h.2 0 (by omega) (by omega) (by omega) (by omega), h.2 1 (by omega) (by omega) (by omega) (by omega), h.2 2 (by omega) (by omega) (by omega) (by omega), h.2 3 (by omega) (by omega) (by omega) (by omega), h.2 4 (by omega) (by omega) (by omega) (by omega), h.2 5 (by omega) (by omega) (by omega) (by omega), h.2 6 (by omega) (by omega) (by omega) (by omega), h.2 10 (by omega) (by omega) (by omega) (by omega), h.2 11 (by omega) (by omega) (by omega) (by omega), h.2 12 (by omega) (by omega) (by omega) (by omega)⟩
theorem er_nb {B B' : iv_M} (h : Er B B') : nb B' = nb B := by funext c d; exact nb_ext h.sc.1 h.sc.2.1 c d
theorem er_kd {B B' : iv_M} (h : Er B B') : kd B' = kd B := by funext c d; unfold kd sd; rw [h.1 115 (by omega), h.1 117 (by omega), h.1 121 (by omega)]
theorem er_kdn {B B' : iv_M} (h : Er B B') : kdn B' = kdn B := by funext c d; unfold kdn; rw [er_nb h, er_kd h]
theorem er_mm {B B' : iv_M} (h : Er B B') : mm B' = mm B := by
  have : ed B' = ed B := by funext c d; unfold ed; rw [er_kd h, er_kdn h]
  unfold mm; rw [this]
theorem er_sT {B B' : iv_M} (h : Er B B') : sT B' = sT B := by funext c t; unfold sT; rw [er_nb h]
theorem er_cnI {B B' : iv_M} (h : Er B B') : cnI B' = cnI B := by funext k r o; unfold cnI; rw [er_nb h, er_sT h, h.1 116 (by omega), h.1 121 (by omega)]
theorem er_wlk {B B' : iv_M} {k r o : Int} (h : Er B B') : Er (wlk B k r o) (wlk B' k r o) := by
  have h6 := h.1 116 (by omega)
  have h7 := h.1 117 (by omega)
  have h1 := h.1 121 (by omega)
  unfold wlk
  rw [er_nb h, h6]
  by_cases e1 : k = 1
  · rw [if_pos e1, if_pos e1]
    refine ⟨fun a ha => ?_, fun j a b c d => ?_⟩
    · by_cases z1 : a = 121
      · subst z1; funext i; rw [wS_1, wS_1, h6, h1]
      · by_cases z2 : a = 116
        · subst z2; funext i; rw [wS_6, wS_6, h6]
        · funext i; rw [wS_o z2 z1, wS_o z2 z1, h.1 a ha]
    · rw [wS_o (by omega) (by omega), wS_o (by omega) (by omega)]; exact h.2 j a b c d
  · rw [if_neg e1, if_neg e1]
    by_cases e2 : k = 2
    · rw [if_pos e2, if_pos e2]
      refine ⟨fun a ha => ?_, fun j a b c d => ?_⟩
      · by_cases z1 : a = 121
        · subst z1; funext i; rw [wC_1, wC_1, h6, h1]
        · by_cases z2 : a = 116
          · subst z2; funext i; rw [wC_6, wC_6, h6]
          · funext i; rw [wC_o z2 z1, wC_o z2 z1, h.1 a ha]
      · rw [wC_o (by omega) (by omega), wC_o (by omega) (by omega)]; exact h.2 j a b c d
    · rw [if_neg e2, if_neg e2]
      refine ⟨fun a ha => ?_, fun j a b c d => ?_⟩
      · by_cases z1 : a = 117
        · subst z1; funext i; rw [wT_7, wT_7, h7]
        · funext i; rw [wT_o z1, wT_o z1, h.1 a ha]
      · rw [wT_o (by omega), wT_o (by omega)]; exact h.2 j a b c d
theorem er_ask {B B' : iv_M} (h : Er B B') : ask B' = ask B := by
  funext k r o b a w
  unfold ask gol dr lk
  rw [er_nb h, h.1 116 (by omega), h.1 115 (by omega), h.1 120 (by omega), h.sc.2.2.2.1, h.sc.2.2.2.2.2.2.1]
theorem er_lwf {B B' : iv_M} {ru : Option (List (List (Int × Int)))} (h : Er B B') : lwf ru B' = lwf ru B := by
  funext k r o
  unfold lwf
  rw [er_cnI h, er_mm h, er_mm (er_wlk h), er_ask h, h.sc.2.2.2.2.1, h.sc.2.2.2.2.2.1, h.1 118 (by omega)]
theorem er_okc {B B' : iv_M} {ru : Option (List (List (Int × Int)))} (h : Er B B') (c : Int) : okc ru B' c ↔ okc ru B c := by
  unfold okc thr; rw [er_lwf h, h.sc.2.2.1]
theorem er_okl {B B' : iv_M} {ru : Option (List (List (Int × Int)))} (h : Er B B') : ∀ n, okl ru B' n = okl ru B n := by
  intro n
  induction n with
  | zero => rfl
  | succ n ih =>
    show (if okc ru B' n then okl ru B' n ++ [(n : Int)] else okl ru B' n) = (if okc ru B n then okl ru B n ++ [(n : Int)] else okl ru B n)
    rw [ih]
    by_cases e : okc ru B n
    · rw [if_pos e, if_pos ((er_okc h n).mpr e)]
    · rw [if_neg e, if_neg (fun z => e ((er_okc h n).mp z))]
theorem er_keyB {B B' : iv_M} (h : Er B B') : keyB B' = keyB B := by unfold keyB; rw [h.1 116 (by omega), h.1 117 (by omega), h.sc.2.2.1]
theorem er_wkc {B B' : iv_M} {c : Int} (h : Er B B') : Er (wkc B c) (wkc B' c) := er_wlk h
theorem er_layk {B B' : iv_M} {P Q : Int} (h : Er B B') : Er (layk B P Q) (layk B' P Q) := by
  refine ⟨fun a ha => ?_, fun j a b c d => ?_⟩
  · funext i
    unfold layk lay
    rw [h.sc.2.2.1, h.1 a ha]
  · unfold layk lay
    rw [if_neg (by omega), if_neg (by omega), if_neg (by omega), if_neg (by omega), if_neg (by omega), if_neg (by omega)]
    exact h.2 j a b c d
theorem er_expd {B B' : iv_M} {W : Int × Int} {i : Nat} (h : Er B B') : ∀ (cs : List Int) (L : List Nd), expd W i B' cs L = expd W i B cs L := by
  intro cs
  induction cs with
  | nil => intro L; rfl
  | cons c cs ih =>
    intro L
    unfold expd
    rw [er_keyB (er_wkc h), ih, ih]
theorem er_bfs {B B' : iv_M} {ru : Option (List (List (Int × Int)))} {W : Int × Int} (h : Er B B') : ∀ (n i : Nat) (L : List Nd), bfs ru B' W n i L = bfs ru B W n i L := by
  intro n
  induction n with
  | zero => intro i L; rfl
  | succ n ih =>
    intro i L
    unfold bfs
    rw [er_okl (er_layk h), er_expd (er_layk h)]
    by_cases e : i < L.length
    · rw [if_pos e, if_pos e]
      split
      · rfl
      · exact ih _ _
    · rw [if_neg e, if_neg e]
theorem er_srch {B B' : iv_M} {ru : Option (List (List (Int × Int)))} (h : Er B B') (k : Int) : srch ru B' k = srch ru B k := by
  have e1 : dC B' = dC B := by funext j r; unfold dC; rw [h.1 123 (by omega)]
  have e2 : dT B' = dT B := by funext j r; unfold dT; rw [h.1 123 (by omega)]
  unfold srch
  rw [er_keyB h, e1, e2, h.sc.2.2.1, er_bfs h]
theorem wkn_ext {B B' : iv_M} (h6 : B' 116 = B 116) (h0 : B' 130 = B 130) (h1 : B' 131 = B 131) : ∀ n, wkn B' n = wkn B n := by
  intro n
  induction n with
  | zero => rfl
  | succ n ih => unfold wkn; rw [ih, h6, h0, h1]
theorem er_rowsL {ru : Option (List (List (Int × Int)))} : ∀ (n : Nat) (B B' : iv_M), Er B B' → rowsL ru n B' = rowsL ru n B := by
  intro n
  induction n with
  | zero =>
    intro B B' h
    unfold rowsL
    rw [wkn_ext (h.1 116 (by omega)) (h.1 130 (by omega)) (h.1 131 (by omega)), h.sc.2.2.2.2.2.2.2.1]
  | succ n ih =>
    intro B B' h
    unfold rowsL
    rw [er_okl h]
    congr 2
    funext pc
    rw [ih _ _ (er_wkc h)]
theorem SOK_er {s s2 : iv_M} (h : Er s s2) (h64 : s2 64 = s 64) (h80 : s2 80 = s 80) (hr : ∀ a, (140 ≤ a ∧ a ≤ 144) ∨ (3 ≤ a ∧ a ≤ 8) → s a = s2 a) (hS : SOK s) : SOK s2 := by
  intro ru hru
  rw [h.sc.2.2.2.2.2.2.2.2.2] at hru
  have := hS ru (RUO_ext hr hru)
  rw [h64, h80, er_srch h, h.sc.2.2.2.2.2.2.2.2.1]
  exact this
theorem ROK_er {s s2 : iv_M} (h : Er s s2) (h81 : s2 81 = s 81) (h96 : s2 96 = s 96) (h97 : s2 97 = s 97) (hr : ∀ a, (140 ≤ a ∧ a ≤ 144) ∨ (3 ≤ a ∧ a ≤ 8) → s a = s2 a) (hS : ROK s) : ROK s2 := by
  intro ru hru
  rw [h.sc.2.2.2.2.2.2.2.2.2] at hru
  have := hS ru (RUO_ext hr hru)
  rw [h81, h96, h97, er_rowsL _ _ _ h]
  exact this
theorem Me_er {s s2 : iv_M} (h : Er s s2) (hr : ∀ a, (140 ≤ a ∧ a ≤ 144) ∨ (3 ≤ a ∧ a ≤ 8) ∨ a = 64 ∨ a = 80 ∨ a = 81 ∨ a = 96 ∨ a = 97 → s2 a = s a) (h15 : s2 0 15 = s 0 15) (hM : MeS s ∧ MeR s) : MeS s2 ∧ MeR s2 := by
  obtain ⟨⟨a1, a2, a3⟩, ⟨b1, b2, b3⟩⟩ := hM
  unfold MeS MeR
  rw [h15, hr 64 (by omega), hr 81 (by omega)]
  exact ⟨⟨a1, a2, fun z => SOK_er h (hr 64 (by omega)) (hr 80 (by omega)) (fun a ha => (hr a (by omega)).symm) (a3 z)⟩, ⟨b1, b2, fun z => ROK_er h (hr 81 (by omega)) (hr 96 (by omega)) (hr 97 (by omega)) (fun a ha => (hr a (by omega)).symm) (b3 z)⟩⟩
