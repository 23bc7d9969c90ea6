-- THE REFERENCE'S LAWS
theorem mu_rw {s : iv_M} {a b : Nat} {i v : Int} (h : b ≠ a) : mu s a i v b = s b := by funext j; exact mu_ne (by omega)
theorem evl_congr {A A' : Int → Int} (hA : ∀ w, 0 ≤ w → w < 13 → A' w = A w) : ∀ (es : List (Int × Int)) (ty ty' : List Bool) (st : List Int), tyl es ty = some ty' → vok st ty → evl A' es st = evl A es st
  | [], _, _, _, _, _ => rfl
  | e :: es, ty, ty', st, h, hv => by
    obtain ⟨t1, h1, h2⟩ := Option.bind_eq_some_iff.mp h
    have e1 : ent A' e st = ent A e st := by
      rcases tye_cases h1 hv with ⟨e0, v1, v2, v3⟩ | ⟨e0, v1, v2, v3⟩ | ⟨e0, x, r, v1, v2, v3⟩ | ⟨e0, x, y, r, v1, t, t1', t2, tr, v2, v3, v4⟩
      · unfold ent; rw [if_pos e0, if_pos e0]
      · unfold ent; rw [if_neg (by omega), if_pos e0, if_neg (by omega), if_pos e0, hA e.2 v1 v2]
      · unfold ent; rw [if_neg (show ¬ e.1 = 0 by omega), if_neg (show ¬ e.1 = 1 by omega), if_neg (show ¬ e.1 = 0 by omega), if_neg (show ¬ e.1 = 1 by omega)]
      · have n0 : ¬ e.1 = 0 := by unfold isOp at e0; omega
        have n1 : ¬ e.1 = 1 := by unfold isOp at e0; omega
        unfold ent; rw [if_neg n0, if_neg n1, if_neg n0, if_neg n1]
    show evl A' es (ent A' e st) = evl A es (ent A e st)
    rw [e1]
    exact evl_congr hA es t1 ty' _ h2 (ent_vok h1 hv)
theorem barR_congr {A A' : Int → Int} {R : List (List (Int × Int))} (hA : ∀ w, 0 ≤ w → w < 13 → A' w = A w) (hg : ∀ c ∈ R, goodC c) : barR A' R = barR A R := by
  induction R with
  | nil => rfl
  | cons c cs ih =>
    unfold barR at ih ⊢
    rw [List.any_cons, List.any_cons, evl_congr hA c [] [true] [] (hg c (List.mem_cons_self)) trivial, ih (fun d hd => hg d (List.mem_cons_of_mem _ hd))]
def gol (B : iv_M) (k r o : Int) : Int := if k = 1 then nb B (B 116 r) o else if k = 2 then B 116 o else B 116 r
def ask (B : iv_M) (k r o bef aft w : Int) : Int := if w = 0 then k else if w = 1 then r else if w = 2 then (if k = 2 then o else 99) else if w = 3 then B 116 r % 4 else if w = 4 then B 116 r / 4 else if w = 5 then gol B k r o % 4 else if w = 6 then gol B k r o / 4 else if w = 7 then dr B r else if w = 8 then lk B r else if w = 9 then pop (slp (B 120) r (B 114 3).toNat) else if w = 10 then B 114 6 else if w = 11 then bef else aft
def RUL (s : iv_M) (f : Int) (R : List (List (Int × Int))) : Prop :=
  R ≠ [] ∧ (∀ c ∈ R, goodC c) ∧ RC s f 0 0 R ∧ s 142 f = R.length ∧ R.length ≤ 12 ∧ R.flatten.length ≤ 300 ∧ CE s (3 + f.toNat) 0 (rco R) ∧ (rco R).length ≤ 400 ∧ s (3 + f.toNat) (rco R).length = 0 ∧ nvs (rco R) ≤ 60
def RUO (s : iv_M) (f : Int) (ru : Option (List (List (Int × Int)))) : Prop := (f = -1 ∧ ru = none) ∨ (0 ≤ f ∧ f < 6 ∧ ∃ R, ru = some R ∧ RUL s f R)
def brd (ru : Option (List (List (Int × Int)))) (A : Int → Int) : Bool := match ru with
  | none => false
  | some R => barR A R
theorem cn_gol {B : iv_M} {k r o : Int} (hW : Wf B) (h : isW B k r o) (hc : cnI B k r o = 1) : 0 ≤ gol B k r o ∧ gol B k r o < 16 := by
  have hs := cn_sl hc
  obtain ⟨r0, r1, hk⟩ := h
  obtain ⟨g1, g2, g3, g4, g5, g6, g7⟩ := hW.room r0 r1
  unfold gol
  rcases hk with ⟨rfl, o0, o1⟩ | ⟨rfl, o0, o1, hro⟩ | ⟨rfl, rfl⟩
  · rw [if_pos rfl]; have := nb_in hW.1 (hs rfl).1; exact ⟨this.1, this.2.1⟩
  · rw [if_neg (by omega), if_pos rfl]; obtain ⟨k1, k2, _⟩ := hW.room o0 o1; exact ⟨k1, k2⟩
  · rw [if_neg (by omega), if_neg (by omega)]; exact ⟨g1, g2⟩
theorem FX12_isBarred_ok {N : Nat} {s : iv_M} {k r o bef aft : Int} {ru : Option (List (List (Int × Int)))} (hN : 1000 ≤ N) (hW : Wf s) (h : isW s k r o) (hc : cnI s k r o = 1) (p0 : 0 ≤ s 114 3) (p1 : s 114 3 ≤ 6) (hR : RUO s (s 114 12) ru) : ∃ s', FX12_isBarred N s 113 k r o bef aft = some (if brd ru (ask s k r o bef aft) = true then 1 else 0, s') ∧ ∀ a, a ≠ 146 → a ≠ 147 → s' a = s a := by
  have hr2 := hW.1.2.2.2.2.2.1
  obtain ⟨q0, q1⟩ := cn_gol hW h hc
  unfold FX12_isBarred
  simp only [Nat.reduceAdd]
  rw [rd_ok (by omega) (by omega), Option.bind_some]
  rcases hR with ⟨f1, f2⟩ | ⟨f0, f1, R, f2, fR⟩
  · rw [if_pos f1, f2]; exact ⟨s, rfl, fun a _ _ => rfl⟩
  · subst f2
    have hn := h
    obtain ⟨r0, r1, hk⟩ := h
    obtain ⟨g1, g2, g3, g4, g5, g6, g7⟩ := hW.room r0 r1
    rw [if_neg (by omega)]
    have key : FX12_isBarred_b56 N s 113 k r o bef aft (s 114 12) (gol s k r o) = FX12_isBarred_l232 N 113 (s 114 12) (fun (s_3188 : iv_M) => (some (0, s_3188))) N (mu (mu (mu (mu (mu (mu (mu (mu (mu (mu (mu (mu (mu s 146 0 k) 146 1 r) 146 2 (if k = 2 then o else 99)) 146 3 (s 116 r % 4)) 146 4 (s 116 r / 4)) 146 5 (gol s k r o % 4)) 146 6 (gol s k r o / 4)) 146 7 (dr s r)) 146 8 (lk s r)) 146 9 (pop (slp (s 120) r (s 114 3).toNat))) 146 10 (s 114 6)) 146 11 bef) 146 12 aft) (12 * s 114 12) := by
      have h146 : ((sh 146).2 : Int) = 13 := by decide
      unfold FX12_isBarred_b56 FX12_isBarred_b92
      simp only [Nat.reduceAdd]
      rw [wr_ok (by omega) (by omega), Option.bind_some, wr_ok (by omega) (by omega), Option.bind_some, h146]
      have hif : ∀ (X : Int → Option (Int × iv_M)), (if k = 2 then X o else X 99) = X (if k = 2 then o else 99) := by intro X; split <;> rfl
      rw [hif (fun z => ((wr (mu (mu s 146 0 k) 146 1 r) 146 13 2 z).bind _))]
      rw [wr_ok (by omega) (by omega), Option.bind_some, rd_ok r0 (by omega), Option.bind_some, wr_ok (by omega) (by omega), Option.bind_some, rd_ok r0 (by omega), Option.bind_some, wr_ok (by omega) (by omega), Option.bind_some, wr_ok (by omega) (by omega), Option.bind_some, wr_ok (by omega) (by omega), Option.bind_some]
      simp (disch := omega) only [mu_rw]
      rw [FX12_doorsOf_ok (by omega) r0 (by omega) (by simp (disch := omega) only [mu_rw]; exact g4) (by simp (disch := omega) only [mu_rw]; exact g5), Option.bind_some, wr_ok (by omega) (by omega), Option.bind_some, FX12_doorsOf_ok (by omega) r0 (by omega) (by simp (disch := omega) only [mu_rw]; exact g4) (by simp (disch := omega) only [mu_rw]; exact g5), Option.bind_some, wr_ok (by omega) (by omega), Option.bind_some, FX12_sleepers_ok (by omega) (by simp (disch := omega) only [mu_rw]; exact p0) (by simp (disch := omega) only [mu_rw]; exact p1), Option.bind_some, bits_ok (by omega), Option.bind_some, wr_ok (by omega) (by omega), Option.bind_some, rd_ok (by omega) (by omega), Option.bind_some, wr_ok (by omega) (by omega), Option.bind_some, wr_ok (by omega) (by omega), Option.bind_some, wr_ok (by omega) (by omega), Option.bind_some, if_pos (show (0 : Int) = 0 from rfl), if_neg (show ¬ (1 : Int) = 0 by omega), tmod_pos g1, tmod_pos q0, dv32_pos g1 (by omega) (by omega), dv32_pos q0 (by omega) (by omega), w32_id (by omega) (by omega)]
      unfold dr lk
      simp (disch := omega) only [mu_rw]
    have tail : ∃ s', FX12_isBarred_b56 N s 113 k r o bef aft (s 114 12) (gol s k r o) = some (if brd (some R) (ask s k r o bef aft) = true then 1 else 0, s') ∧ ∀ a, a ≠ 146 → a ≠ 147 → s' a = s a := by
      rw [key]
      obtain ⟨u1, u2, u3, u4, u5, u6, _⟩ := fR
      obtain ⟨s', b1, b2⟩ := ref_bar (A := mu (mu (mu (mu (mu (mu (mu (mu (mu (mu (mu (mu (mu s 146 0 k) 146 1 r) 146 2 (if k = 2 then o else 99)) 146 3 (s 116 r % 4)) 146 4 (s 116 r / 4)) 146 5 (gol s k r o % 4)) 146 6 (gol s k r o / 4)) 146 7 (dr s r)) 146 8 (lk s r)) 146 9 (pop (slp (s 120) r (s 114 3).toNat))) 146 10 (s 114 6)) 146 11 bef) 146 12 aft 146) (m := R.length) hN f0 f1 (by omega) R N _ 0 0 (RC_ext (s := s) (by simp (disch := omega) only [mu_rw]) (by simp (disch := omega) only [mu_rw]) (by simp (disch := omega) only [mu_rw]) (by simp (disch := omega) only [mu_rw]) R 0 0 u3) u2 (by omega) (by omega) (by simp (disch := omega) only [mu_rw]; exact u4) (by omega) (by omega) (by omega) rfl
      rw [Int.add_zero] at b1
      refine ⟨s', ?_, fun a h1 h2 => ?_⟩
      · rw [b1]
        have : barR (mu (mu (mu (mu (mu (mu (mu (mu (mu (mu (mu (mu (mu s 146 0 k) 146 1 r) 146 2 (if k = 2 then o else 99)) 146 3 (s 116 r % 4)) 146 4 (s 116 r / 4)) 146 5 (gol s k r o % 4)) 146 6 (gol s k r o / 4)) 146 7 (dr s r)) 146 8 (lk s r)) 146 9 (pop (slp (s 120) r (s 114 3).toNat))) 146 10 (s 114 6)) 146 11 bef) 146 12 aft 146) R = barR (ask s k r o bef aft) R := by
          refine barR_congr (fun w w0 w1 => ?_) u2
          have : w = 0 ∨ w = 1 ∨ w = 2 ∨ w = 3 ∨ w = 4 ∨ w = 5 ∨ w = 6 ∨ w = 7 ∨ w = 8 ∨ w = 9 ∨ w = 10 ∨ w = 11 ∨ w = 12 := by omega
          rcases this with rfl | rfl | rfl | rfl | rfl | rfl | rfl | rfl | rfl | rfl | rfl | rfl | rfl <;> simp (disch := omega) only [mu_ne, mu_eq] <;> simp [ask]
        rw [this]; rfl
      · rw [b2 a h2]; simp (disch := omega) only [mu_rw]
    rcases hk with ⟨rfl, o0, o1⟩ | ⟨rfl, o0, o1, hro⟩ | ⟨rfl, rfl⟩
    · rw [if_pos rfl, rd_ok r0 (by omega), Option.bind_some, FX12_by_ok hW.1 g1 g2 o0 o1, Option.bind_some]
      have e : gol s 1 r o = nb s (s 116 r) o := by unfold gol; rw [if_pos rfl]
      rw [← e]; exact tail
    · rw [if_neg (by omega), if_pos rfl, rd_ok o0 (by omega), Option.bind_some]
      have e : gol s 2 r o = s 116 o := by unfold gol; rw [if_neg (by omega), if_pos rfl]
      rw [← e]; exact tail
    · rw [if_neg (by omega), if_neg (by omega), rd_ok r0 (by omega), Option.bind_some]
      have e : gol s 3 r 0 = s 116 r := by unfold gol; rw [if_neg (by omega), if_neg (by omega)]
      rw [← e]; exact tail
-- a block of one memory, the rest of another
def blk (B s : iv_M) : iv_M := fun a => if 114 ≤ a ∧ a ≤ 131 then B a else s a
theorem blk_in {B s : iv_M} {a : Nat} (h : 114 ≤ a ∧ a ≤ 131) : blk B s a = B a := if_pos h
theorem blk_out {B s : iv_M} {a : Nat} (h : ¬ (114 ≤ a ∧ a ≤ 131)) : blk B s a = s a := if_neg h
theorem blk_mu {B s : iv_M} {a : Nat} {i v : Int} (h : 114 ≤ a ∧ a ≤ 131) : blk (mu B a i v) s = mu (blk B s) a i v := by
  funext b j
  unfold blk mu
  dsimp only
  by_cases e : 114 ≤ b ∧ b ≤ 131
  · rw [if_pos e]
    by_cases e2 : b = a ∧ j = i
    · rw [if_pos e2, if_pos e2]
    · rw [if_neg e2, if_neg e2, if_pos e]
  · rw [if_neg e, if_neg (by omega), if_neg e]
theorem eb_blk {B s : iv_M} : Eb B (blk B s) := fun a a0 a1 => blk_in ⟨a0, a1⟩
theorem wlk_blk {B s : iv_M} {k r o : Int} : wlk (blk B s) k r o = blk (wlk B k r o) s := by
  unfold wlk
  have h6 : blk B s 116 = B 116 := blk_in (by omega)
  have h7 : blk B s 117 = B 117 := blk_in (by omega)
  rw [h6, eb_nb eb_blk]
  split
  · unfold wS; rw [blk_mu (by omega), blk_mu (by omega), blk_mu (by omega), h6]
  · split
    · unfold wC; rw [blk_mu (by omega), blk_mu (by omega), blk_mu (by omega), blk_mu (by omega), h6]
    · unfold wT; rw [blk_mu (by omega), h7]
theorem blk_self {B s : iv_M} (h : Eb B s) : blk B s = s := by
  funext a
  by_cases e : 114 ≤ a ∧ a ≤ 131
  · rw [blk_in e, h a e.1 e.2]
  · rw [blk_out e]
theorem eb_isW {s s' : iv_M} {k r o : Int} (h : Eb s s') (hw : isW s k r o) : isW s' k r o := by unfold isW at hw ⊢; rw [h 114 (by omega) (by omega)]; exact hw
theorem eb_slO {s s' : iv_M} {k r o : Int} (h : Eb s s') (hw : slO s k r o) : slO s' k r o := by unfold slO at hw ⊢; rw [eb_nb h, h 116 (by omega) (by omega), h 121 (by omega) (by omega)]; exact hw
theorem eb_sT {s s' : iv_M} (h : Eb s s') : sT s' = sT s := by funext c t; unfold sT; rw [eb_nb h]
theorem eb_cnI {s s' : iv_M} (h : Eb s s') : cnI s' = cnI s := by funext k r o; unfold cnI; rw [eb_nb h, eb_sT h, h 116 (by omega) (by omega), h 121 (by omega) (by omega)]
theorem eb_wlk {s s' : iv_M} {k r o : Int} (h : Eb s s') : Eb (wlk s k r o) (wlk s' k r o) := by
  rw [← blk_self h, wlk_blk]; exact eb_blk
theorem eb_ask {s s' : iv_M} (h : Eb s s') : ask s' = ask s := by
  funext k r o b a w
  unfold ask gol dr lk
  rw [eb_nb h, h 116 (by omega) (by omega), h 115 (by omega) (by omega), h 120 (by omega) (by omega), h 114 (by omega) (by omega)]
theorem FX12_walksBack_eb {N : Nat} {s B : iv_M} {k r o : Int} (hs' : Eb (wlk B k r o) s) (hW : Wf B) (h : isW B k r o) (hs : slO B k r o) : FX12_walksBack N s 113 k r o = some (blk B s) :=
  FX12_walksBack_ok (B := blk B s) (by rw [wlk_blk, blk_self hs']) (eb_Wf eb_blk hW) (eb_isW eb_blk h) (eb_slO eb_blk hs)
def lwf (ru : Option (List (List (Int × Int)))) (B : iv_M) (k r o : Int) : Int := if B 114 4 / 2 ^ (k - 1).toNat % 2 = 0 ∨ B 118 r = 1 ∨ (k = 2 ∧ B 118 o = 1) then 1 else if cnI B k r o = 0 then 2 else if (B 114 5 = 1 ∧ mm B < mm (wlk B k r o)) ∨ (B 114 5 = 2 ∧ 0 < mm (wlk B k r o)) then 3 else if brd ru (ask B k r o (mm B) (mm (wlk B k r o))) = true then 4 else 0
/-- what the reference scribbles on when it asks for laws -/
def Scr (s s' : iv_M) : Prop := (∀ a, a ≠ 113 → a ≠ 146 → a ≠ 147 → s' a = s a) ∧ ∀ i, i ≠ 26 → i ≠ 27 → i ≠ 48 → s' 113 i = s 113 i
theorem Scr.refl {s : iv_M} : Scr s s := ⟨fun _ _ _ _ => rfl, fun _ _ _ _ => rfl⟩
theorem Scr.trans {s s1 s2 : iv_M} (h : Scr s s1) (h2 : Scr s1 s2) : Scr s s2 := ⟨fun a x y z => (h2.1 a x y z).trans (h.1 a x y z), fun i x y z => (h2.2 i x y z).trans (h.2 i x y z)⟩
theorem Scr.eb {s s' : iv_M} (h : Scr s s') : Eb s s' := fun a a0 a1 => h.1 a (by omega) (by omega) (by omega)
theorem RUL_ext {s s' : iv_M} {f : Int} {R : List (List (Int × Int))} (h0 : s' 140 = s 140) (h1 : s' 141 = s 141) (h2 : s' 142 = s 142) (h3 : s' 143 = s 143) (h4 : s' 144 = s 144) (h5 : s' (3 + f.toNat) = s (3 + f.toNat)) (h : RUL s f R) : RUL s' f R := by
  obtain ⟨u1, u2, u3, u4, u5, u6, u7, u8, u9, u10⟩ := h
  exact ⟨u1, u2, RC_ext h0 h1 h3 h4 R 0 0 u3, by rw [h2]; exact u4, u5, u6, CE_ext h5 _ 0 u7, u8, by rw [h5]; exact u9, u10⟩
theorem RUO_ext {s s' : iv_M} {f : Int} {ru : Option (List (List (Int × Int)))} (h : ∀ a, (140 ≤ a ∧ a ≤ 144) ∨ (3 ≤ a ∧ a ≤ 8) → s' a = s a) (hR : RUO s f ru) : RUO s' f ru := by
  rcases hR with z | ⟨f0, f1, R, f2, fR⟩
  · left; exact z
  · right; exact ⟨f0, f1, R, f2, RUL_ext (h 140 (by omega)) (h 141 (by omega)) (h 142 (by omega)) (h 143 (by omega)) (h 144 (by omega)) (h _ (by omega)) fR⟩
theorem mm_bd (B : iv_M) : 0 ≤ mm B ∧ mm B ≤ 40 := by
  have h1 := su_le (f := fun c => ed B c 1 + ed B c 2) (m := 2) 16 (fun i _ _ => by have := ed_01 B i 1; have := ed_01 B i 2; show 0 ≤ ed B i 1 + ed B i 2 ∧ ed B i 1 + ed B i 2 ≤ 2; omega)
  have h2 := su_le (f := fun x => ed B x 0) (m := 1) 4 (fun i _ _ => ed_01 B i 0)
  have h3 := su_le (f := fun y => ed B (4 * y) 3) (m := 1) 4 (fun i _ _ => ed_01 B (4 * i) 3)
  unfold mm; omega
theorem way_bit {x k : Int} (k1 : 1 ≤ k) (k2 : k ≤ 3) : bAn (sr32 x (w32 (k - 1))) 1 = x / 2 ^ (k - 1).toNat % 2 := by
  rw [w32_id (by omega) (by omega), bAn_1]
  unfold sr32
  rw [show ((k - 1) % 32).toNat = (k - 1).toNat by omega]
theorem cn_01 (B : iv_M) (k r o : Int) : cnI B k r o = 0 ∨ cnI B k r o = 1 := by
  unfold cnI; repeat' split
  all_goals simp
theorem FX12_lawOf_ok {N : Nat} {s : iv_M} {k r o : Int} {ru : Option (List (List (Int × Int)))} (hN : 1000 ≤ N) (hW : Wf s) (h : isW s k r o) (p0 : 0 ≤ s 114 3) (p1 : s 114 3 ≤ 6) (hR : RUO s (s 114 12) ru) : ∃ s', FX12_lawOf N s 113 k r o = some (lwf ru s k r o, s') ∧ Scr s s' ∧ (lwf ru s k r o = 0 → s' 113 48 = mm (wlk s k r o)) := by
  have hr2 := hW.1.2.2.2.2.2.1
  have h' := h
  obtain ⟨r0, r1, hk⟩ := h
  have hk3 : 1 ≤ k ∧ k ≤ 3 := by omega
  have o1 : k = 2 → 0 ≤ o ∧ o < s 114 2 := fun z => by omega
  unfold FX12_lawOf FX12_lawOf_b40 lwf
  simp only [Nat.reduceAdd]
  rw [rd_ok (by omega) (by omega), Option.bind_some, way_bit hk3.1 hk3.2]
  by_cases w1 : s 114 4 / 2 ^ (k - 1).toNat % 2 = 0
  · rw [if_pos w1, if_pos (Or.inl w1)]; exact ⟨s, rfl, Scr.refl, fun z => by omega⟩
  rw [if_neg w1, rd_ok r0 (by omega), Option.bind_some]
  by_cases w2 : s 118 r = 1
  · rw [if_pos w2, if_pos (Or.inr (Or.inl w2))]; exact ⟨s, rfl, Scr.refl, fun z => by omega⟩
  rw [if_neg w2]
  have main : ¬ (k = 2 ∧ s 118 o = 1) → ∃ s', FX12_lawOf_b42 N s 113 k r o = some (if s 114 4 / 2 ^ (k - 1).toNat % 2 = 0 ∨ s 118 r = 1 ∨ (k = 2 ∧ s 118 o = 1) then 1 else if cnI s k r o = 0 then 2 else if (s 114 5 = 1 ∧ mm s < mm (wlk s k r o)) ∨ (s 114 5 = 2 ∧ 0 < mm (wlk s k r o)) then 3 else if brd ru (ask s k r o (mm s) (mm (wlk s k r o))) = true then 4 else 0, s') ∧ Scr s s' ∧ ((if s 114 4 / 2 ^ (k - 1).toNat % 2 = 0 ∨ s 118 r = 1 ∨ (k = 2 ∧ s 118 o = 1) then 1 else if cnI s k r o = 0 then 2 else if (s 114 5 = 1 ∧ mm s < mm (wlk s k r o)) ∨ (s 114 5 = 2 ∧ 0 < mm (wlk s k r o)) then 3 else if brd ru (ask s k r o (mm s) (mm (wlk s k r o))) = true then 4 else 0) = (0 : Int) → s' 113 48 = mm (wlk s k r o)) := by
    intro w3
    rw [if_neg (show ¬ (s 114 4 / 2 ^ (k - 1).toNat % 2 = 0 ∨ s 118 r = 1 ∨ (k = 2 ∧ s 118 o = 1)) from fun z => by rcases z with z | z | z; exact w1 z; exact w2 z; exact w3 z)]
    unfold FX12_lawOf_b42
    rw [FX12_canBe_ok (by omega) hW h', Option.bind_some]
    by_cases w4 : cnI s k r o = 0
    · rw [if_pos w4, if_pos w4]; exact ⟨s, rfl, Scr.refl, fun z => by omega⟩
    have hc : cnI s k r o = 1 := by rcases cn_01 s k r o with z | z; exact absurd z w4; exact z
    have hs := cn_sl hc
    rw [if_neg w4, if_neg w4, FX12_mismatches_ok (by omega) hW.1 hW.2.1, Option.bind_some]
    dsimp only
    have e1 : Eb s (fsM s 64) := eb_fsM
    have W1 := eb_Wf e1 hW
    rw [FX12_walks_ok W1 (eb_isW e1 h') (eb_slO e1 hs), Option.bind_some]
    have W2 : Wf (wlk (fsM s 64) k r o) := Wf_wlk W1 (eb_isW e1 h') (eb_slO e1 hs)
    rw [FX12_mismatches_ok (by omega) W2.1 W2.2.1, Option.bind_some]
    dsimp only
    have hm : mm (wlk (fsM s 64) k r o) = mm (wlk s k r o) := eb_mm (eb_wlk e1)
    rw [hm, pt_ok, Option.bind_some]
    have e2 : Eb (wlk s k r o) (mu (fsM (wlk (fsM s 64) k r o) 64) 113 48 (mm (wlk s k r o))) := (eb_wlk e1).trans (eb_fsM.trans (eb_mu (by omega)))
    rw [FX12_walksBack_eb e2 hW h' hs, Option.bind_some]
    have e3 : Eb s (blk s (mu (fsM (wlk (fsM s 64) k r o) 64) 113 48 (mm (wlk s k r o)))) := eb_blk
    have S3 : Scr s (blk s (mu (fsM (wlk (fsM s 64) k r o) 64) 113 48 (mm (wlk s k r o)))) := by
      have f1 : ∀ (t : iv_M) (a : Nat), a ≠ 113 → fsM t 64 a = t a := by
        intro t a ha; unfold fsM; split
        · rfl
        · rw [mu_rw ha, mu_rw ha]
      have f2 : ∀ (t : iv_M) (i : Int), i ≠ 26 → i ≠ 27 → fsM t 64 113 i = t 113 i := by
        intro t i h1 h2; unfold fsM; split
        · rfl
        · rw [mu_ne (by omega), mu_ne (by omega)]
      refine ⟨fun a a1 a2 a3 => ?_, fun i i1 i2 i3 => ?_⟩
      · by_cases e : 114 ≤ a ∧ a ≤ 131
        · rw [blk_in e]
        · rw [blk_out e, mu_rw a1, f1 _ _ a1]
          funext j
          rw [wlk_o (by omega) (by omega) (by omega), f1 _ _ a1]
      · rw [blk_out (by omega), mu_ne (by omega), f2 _ _ i1 i2, wlk_o (by omega) (by omega) (by omega), f2 _ _ i1 i2]
    have h48 : blk s (mu (fsM (wlk (fsM s 64) k r o) 64) 113 48 (mm (wlk s k r o))) 113 48 = mm (wlk s k r o) := by rw [blk_out (by omega), mu_eq]
    generalize blk s (mu (fsM (wlk (fsM s 64) k r o) 64) 113 48 (mm (wlk s k r o))) = t at *
    have h114 : t 114 = s 114 := e3 114 (by omega) (by omega)
    rw [rd_ok (by omega) (by omega), Option.bind_some, h114, h48]
    unfold FX12_lawOf_b118
    have m0 := mm_bd s
    have m1 := mm_bd (wlk s k r o)
    have last : ∃ s', FX12_lawOf_b120 N t 113 k r o (mm s) = some (if brd ru (ask s k r o (mm s) (mm (wlk s k r o))) = true then 4 else 0, s') ∧ Scr s s' ∧ s' 113 48 = mm (wlk s k r o) := by
      unfold FX12_lawOf_b120 FX12_lawOf_b141
      obtain ⟨s', b1, b2⟩ := FX12_isBarred_ok (s := t) (k := k) (r := r) (o := o) (bef := mm s) (aft := t 113 48) (ru := ru) hN (eb_Wf e3 hW) (eb_isW e3 h') (by rw [eb_cnI e3]; exact hc) (by rw [h114]; exact p0) (by rw [h114]; exact p1) (by rw [h114]; exact RUO_ext (fun a ha => S3.1 a (by omega) (by omega) (by omega)) hR)
      rw [b1, Option.bind_some, eb_ask e3, h48]
      dsimp only
      refine ⟨s', ?_, S3.trans ⟨fun a a1 a2 a3 => b2 a a2 a3, fun i _ _ _ => by rw [b2 113 (by omega) (by omega)]⟩, by rw [b2 113 (by omega) (by omega)]; exact h48⟩
      split
      · rw [if_neg (by omega)]
      · rw [if_pos rfl]
    unfold FX12_lawOf_b101
    simp only [Nat.reduceAdd]
    rw [rd_ok (by omega) (by omega), Option.bind_some, h114, h48]
    obtain ⟨s', b1, b2, b3⟩ := last
    unfold FX12_lawOf_b118
    by_cases l1 : s 114 5 = 1
    · rw [if_pos l1]
      by_cases l2 : mm s < mm (wlk s k r o)
      · rw [if_pos l2, if_pos (Or.inl ⟨l1, l2⟩)]; exact ⟨t, rfl, S3, fun z => by omega⟩
      · rw [if_neg l2, if_neg (show ¬ s 114 5 = 2 by omega), if_neg (show ¬ ((s 114 5 = 1 ∧ mm s < mm (wlk s k r o)) ∨ (s 114 5 = 2 ∧ 0 < mm (wlk s k r o))) by omega)]
        exact ⟨s', b1, b2, fun _ => b3⟩
    · rw [if_neg l1]
      by_cases l2 : s 114 5 = 2
      · rw [if_pos l2]
        by_cases l3 : mm (wlk s k r o) ≤ 0
        · rw [if_pos l3, if_neg (show ¬ ((s 114 5 = 1 ∧ mm s < mm (wlk s k r o)) ∨ (s 114 5 = 2 ∧ 0 < mm (wlk s k r o))) by omega)]
          exact ⟨s', b1, b2, fun _ => b3⟩
        · rw [if_neg l3, if_pos (Or.inr ⟨l2, by omega⟩)]; exact ⟨t, rfl, S3, fun z => by omega⟩
      · rw [if_neg l2, if_neg (show ¬ ((s 114 5 = 1 ∧ mm s < mm (wlk s k r o)) ∨ (s 114 5 = 2 ∧ 0 < mm (wlk s k r o))) by omega)]
        exact ⟨s', b1, b2, fun _ => b3⟩
  by_cases w3 : k = 2
  · rw [if_pos w3]
    rw [rd_ok (o1 w3).1 (by have := (o1 w3).2; clear main; omega), Option.bind_some]
    by_cases w4 : s 118 o = 1
    · rw [if_pos w4, if_pos (Or.inr (Or.inr ⟨w3, w4⟩))]; exact ⟨s, rfl, Scr.refl, fun z => by omega⟩
    · rw [if_neg w4]; exact main (fun z => w4 z.2)
  · rw [if_neg w3]; exact main (fun z => w3 z.1)
