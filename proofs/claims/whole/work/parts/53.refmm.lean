-- THE REFERENCE COUNTS MISMATCHES; THE CLASS FINDS THE FIRST
def Eb (s s' : iv_M) : Prop := ∀ a : Nat, 114 ≤ a → a ≤ 131 → s' a = s a
theorem Eb.refl {s : iv_M} : Eb s s := fun _ _ _ => rfl
theorem Eb.trans {s s1 s2 : iv_M} (h : Eb s s1) (h2 : Eb s1 s2) : Eb s s2 := fun a a0 a1 => (h2 a a0 a1).trans (h a a0 a1)
theorem Eb.symm {s s1 : iv_M} (h : Eb s s1) : Eb s1 s := fun a a0 a1 => (h a a0 a1).symm
theorem eb_nb {s s' : iv_M} (h : Eb s s') : nb s' = nb s := by funext c d; unfold nb isC; rw [h 114 (by omega) (by omega)]
theorem eb_mu {s : iv_M} {a : Nat} {i v : Int} (h : a < 114 ∨ 131 < a) : Eb s (mu s a i v) := fun b b0 b1 => by funext j; exact mu_ne (by omega)
theorem mu_same {s : iv_M} {a : Nat} {i : Int} : mu s a i (s a i) = s := by
  funext b j
  unfold mu
  split
  · next h => rw [h.1, h.2]
  · rfl
theorem eb_sd {s s' : iv_M} (h : Eb s s') : sd s' = sd s := by funext c d; unfold sd; rw [h 115 (by omega) (by omega), h 117 (by omega) (by omega)]
theorem eb_kd {s s' : iv_M} (h : Eb s s') : kd s' = kd s := by funext c d; unfold kd; rw [h 121 (by omega) (by omega), eb_sd h]
theorem eb_kdn {s s' : iv_M} (h : Eb s s') : kdn s' = kdn s := by funext c d; unfold kdn; rw [eb_nb h, eb_kd h]
theorem eb_mi {s s' : iv_M} (h : Eb s s') : mi s' = mi s := by funext c d; unfold mi; rw [eb_kd h, eb_kdn h]
theorem eb_ed {s s' : iv_M} (h : Eb s s') : ed s' = ed s := by funext c d; unfold ed; rw [eb_kd h, eb_kdn h]
theorem eb_mm {s s' : iv_M} (h : Eb s s') : mm s' = mm s := by unfold mm; rw [eb_ed h]
theorem eb_Wa {s s' : iv_M} (h : Eb s s') (hW : Wa s) : Wa s' := by unfold Wa at hW ⊢; rw [h 114 (by omega) (by omega), h 115 (by omega) (by omega)]; exact hW
theorem eb_Wc {s s' : iv_M} (h : Eb s s') (hW : Wc s) : Wc s' := by unfold Wc at hW ⊢; rw [h 114 (by omega) (by omega), h 116 (by omega) (by omega), h 117 (by omega) (by omega), h 121 (by omega) (by omega)]; exact hW
theorem eb_Wr {s s' : iv_M} (h : Eb s s') (hW : Wr s) : Wr s' := by unfold Wr at hW ⊢; rw [h 114 (by omega) (by omega), h 116 (by omega) (by omega), h 121 (by omega) (by omega)]; exact hW
theorem eb_Wf {s s' : iv_M} (h : Eb s s') (hW : Wf s) : Wf s' := ⟨eb_Wa h hW.1, eb_Wc h hW.2.1, eb_Wr h hW.2.2⟩
/-- the memory, with the first mismatch below place j written down -/
def fsM (s : iv_M) (j : Nat) : iv_M := if ffb (mis s) j = -1 then s else mu (mu s 113 26 (ffb (mis s) j / 4)) 113 27 (ffb (mis s) j % 4)
theorem eb_fsM {s : iv_M} {j : Nat} : Eb s (fsM s j) := by
  unfold fsM
  split
  · exact Eb.refl
  · exact (eb_mu (by omega)).trans (eb_mu (by omega))
theorem ffb_zero {f : Int → Int} (hf : ∀ i, 0 ≤ f i ∧ f i ≤ 1) : ∀ n : Nat, su f n = 0 ↔ ffb f n = -1 := by
  intro n
  induction n with
  | zero => exact ⟨fun _ => rfl, fun _ => rfl⟩
  | succ n ih =>
    have e : ffb f (n + 1) = if ffb f n ≠ -1 then ffb f n else if f n = 1 then (n : Int) else -1 := rfl
    have e2 : su f (n + 1) = su f n + f n := rfl
    have hb := su_le (f := f) (m := 1) n (fun i _ _ => hf i)
    have h1 := hf n
    rw [e, e2]
    by_cases h2 : ffb f n = -1
    · rw [if_neg (by omega)]
      have := ih.mpr h2
      by_cases h3 : f n = 1
      · rw [if_pos h3]; omega
      · rw [if_neg h3]; omega
    · rw [if_pos h2]
      have : su f n ≠ 0 := fun z => h2 (ih.mp z)
      omega
theorem ffb_stay {f : Int → Int} {n : Nat} (h : f n ≠ 1) : ffb f (n + 1) = ffb f n := by
  show (if ffb f n ≠ -1 then ffb f n else if f n = 1 then (n : Int) else -1) = _
  rw [if_neg h]
  split
  · rfl
  · next h2 => omega
theorem fsM_stay {s : iv_M} {n : Nat} (h : mis s n ≠ 1) : fsM s (n + 1) = fsM s n := by unfold fsM; rw [ffb_stay h]
theorem FX12_mm_in {N : Nat} {s : iv_M} {c : Int} {kx : iv_M → Int → Option (Int × iv_M)} (hN : 10 ≤ N) (hW : Wa s) (hc : Wc s) (c0 : 0 ≤ c) (c1 : c < 16) : FX12_mismatches_l12 N 113 c kx N (fsM s (4 * c).toNat) (su (mis s) (4 * c).toNat) 0 = kx (fsM s (4 * c + 4).toNat) (su (mis s) (4 * c + 4).toNat) := by
  have hR : ∀ (s' : iv_M), rd s' (113 + 8) 16 c = some (s' 121 c) := fun s' => rd_ok c0 c1
  by_cases e : s 121 c = -1
  · obtain ⟨M, rfl⟩ : ∃ M, N = M + 1 := ⟨N - 1, by omega⟩
    have hk : ∀ d, kd s c d = 3 := fun d => by unfold kd; rw [if_pos e]
    have hz : ∀ d : Nat, d < 4 → mis s ((4 * c).toNat + d : Nat) = 0 := fun d hd => by
      unfold mis mi
      rw [show (((4 * c).toNat + d : Nat) : Int) / 4 = c by omega, hk, if_pos rfl]
    have e0 := hz 0 (by omega)
    have e1 := hz 1 (by omega)
    have e2 := hz 2 (by omega)
    have e3 := hz 3 (by omega)
    rw [FX12_mismatches_l12, if_neg (by omega), hR, Option.bind_some, eb_fsM 121 (by omega) (by omega), if_pos e, show (4 * c + 4).toNat = (4 * c).toNat + 1 + 1 + 1 + 1 by omega]
    rw [fsM_stay (by rw [e3]; omega), fsM_stay (by rw [e2]; omega), fsM_stay (by rw [e1]; omega), fsM_stay (n := (4 * c).toNat) (by rw [show (((4 * c).toNat : Nat) : Int) = (((4 * c).toNat + 0 : Nat) : Int) from rfl, e0]; omega)]
    have q : su (mis s) ((4 * c).toNat + 1 + 1 + 1 + 1) = su (mis s) (4 * c).toNat := by
      show su (mis s) (4 * c).toNat + mis s ((4 * c).toNat : Nat) + mis s ((4 * c).toNat + 1 : Nat) + mis s ((4 * c).toNat + 2 : Nat) + mis s ((4 * c).toNat + 3 : Nat) = _
      have e0 : mis s ((4 * c).toNat : Nat) = 0 := e0
      rw [e0, e1, e2, e3]; omega
    rw [q]
  · obtain ⟨y, y1, y2⟩ := loop_up (L := fun n (x : iv_M × Int) i => FX12_mismatches_l12 N 113 c kx n x.1 x.2 i) (k := fun x => kx x.1 x.2) (hi := 4) (fun d x => x.1 = fsM s (4 * c + d).toNat ∧ x.2 = su (mis s) (4 * c + d).toNat ∧ 0 ≤ d) (fun n x hx => by
        show FX12_mismatches_l12 N 113 c kx (n + 1) x.1 x.2 4 = kx x.1 x.2
        rw [FX12_mismatches_l12, if_pos (by omega)]) (fun n d x hx hd => by
        obtain ⟨x1, x2, d0⟩ := hx
        have hE : Eb s x.1 := by rw [x1]; exact eb_fsM
        have hj : mis s ((4 * c + d).toNat : Int) = mi s c d := by unfold mis; rw [show (((4 * c + d).toNat : Nat) : Int) / 4 = c by omega, show (((4 * c + d).toNat : Nat) : Int) % 4 = d by omega]
        have hn : (4 * c + (d + 1)).toNat = (4 * c + d).toNat + 1 := by omega
        have hb := su_le (f := mis s) (m := 1) (4 * c + d).toNat (fun i _ _ => mi_01 _ _ _)
        have hz := ffb_zero (f := mis s) (fun i => mi_01 _ _ _) (4 * c + d).toNat
        have h01 := mi_01 s c d
        have hsu : su (mis s) ((4 * c + d).toNat + 1) = su (mis s) (4 * c + d).toNat + mi s c d := by rw [← hj]; rfl
        have hm : FX12_isMismatch N x.1 113 (s 121 c) d = some (mi s c d) := by
          have := FX12_isMismatch_ok (N := N) (s := x.1) (c := c) (d := d) (eb_Wa hE hW) (eb_Wc hE hc) c0 c1 d0 hd (by rw [hE 121 (by omega) (by omega)]; exact e)
          rw [hE 121 (by omega) (by omega), eb_mi hE] at this; exact this
        refine ⟨(fsM s ((4 * c + d).toNat + 1), su (mis s) ((4 * c + d).toNat + 1)), ?_, by rw [hn], by rw [hn], by omega⟩
        show FX12_mismatches_l12 N 113 c kx (n + 1) x.1 x.2 d = FX12_mismatches_l12 N 113 c kx n (fsM s ((4 * c + d).toNat + 1)) (su (mis s) ((4 * c + d).toNat + 1)) (d + 1)
        rw [FX12_mismatches_l12, if_neg (by omega), hR, Option.bind_some, hE 121 (by omega) (by omega), if_neg e, Option.bind_some, hm, Option.bind_some, hsu]
        unfold FX12_mismatches_b54 FX12_mismatches_b70 FX12_mismatches_b76
        by_cases h0 : mi s c d = 0
        · rw [if_pos h0, w32_id (by omega) (by omega), fsM_stay (by rw [hj]; omega), x1, x2, h0, Int.add_zero]
        · rw [if_neg h0, pt_ok, pt_ok, Option.bind_some, Option.bind_some]
          have h1 : mi s c d = 1 := by omega
          by_cases h2 : x.2 = 0
          · have hff : ffb (mis s) (4 * c + d).toNat = -1 := hz.mp (by rw [← x2]; exact h2)
            have hf2 : ffb (mis s) ((4 * c + d).toNat + 1) = ((4 * c + d).toNat : Int) := by
              show (if ffb (mis s) (4 * c + d).toNat ≠ -1 then ffb (mis s) (4 * c + d).toNat else if mis s ((4 * c + d).toNat : Int) = 1 then (((4 * c + d).toNat : Nat) : Int) else -1) = _
              rw [if_neg (by omega), hj, if_pos h1]
            rw [if_pos h2, if_pos h2, pt_ok, Option.bind_some, w32_id (by omega) (by omega), w32_id (by omega) (by omega), h1, x2]
            have : fsM s ((4 * c + d).toNat + 1) = mu (mu x.1 113 26 c) 113 27 d := by
              unfold fsM
              rw [hf2, if_neg (by omega), x1]
              unfold fsM
              rw [if_pos hff, show (((4 * c + d).toNat : Nat) : Int) / 4 = c by omega, show (((4 * c + d).toNat : Nat) : Int) % 4 = d by omega]
            rw [this]
          · have hff : ffb (mis s) (4 * c + d).toNat ≠ -1 := fun z => h2 (by rw [x2]; exact hz.mpr z)
            rw [if_neg h2, if_neg h2, mu_same, pt_ok, Option.bind_some, mu_same, w32_id (by omega) (by omega), w32_id (by omega) (by omega), h1, x2]
            have : fsM s ((4 * c + d).toNat + 1) = x.1 := by
              rw [x1]; unfold fsM
              have : ffb (mis s) ((4 * c + d).toNat + 1) = ffb (mis s) (4 * c + d).toNat := if_pos hff
              rw [this]
            rw [this]) N 0 (fsM s (4 * c).toNat, su (mis s) (4 * c).toNat) ⟨by rw [Int.add_zero], by rw [Int.add_zero], by omega⟩ (by omega) (by omega)
    rw [← y1.1, ← y1.2.1]
    exact y2
theorem FX12_mismatches_ok {N : Nat} {s : iv_M} (hN : 100 ≤ N) (hW : Wa s) (hc : Wc s) : FX12_mismatches N s 113 = some (mm s, fsM s 64) := by
  unfold FX12_mismatches
  obtain ⟨y, y1, y2⟩ := loop_up (L := fun n (x : iv_M × Int) i => FX12_mismatches_l4 N 113 (fun (s_2354 : iv_M) (x2355_1 : Int) => (some (x2355_1, s_2354))) n x.1 x.2 i) (k := fun x => some (x.2, x.1)) (hi := 16) (fun c x => x.1 = fsM s (4 * c).toNat ∧ x.2 = su (mis s) (4 * c).toNat ∧ 0 ≤ c) (fun n x hx => by
      show FX12_mismatches_l4 N 113 (fun (s_2354 : iv_M) (x2355_1 : Int) => (some (x2355_1, s_2354))) (n + 1) x.1 x.2 16 = _
      rw [FX12_mismatches_l4, if_pos (by omega)]) (fun n c x hx hd => by
      obtain ⟨x1, x2, c0⟩ := hx
      refine ⟨(fsM s (4 * c + 4).toNat, su (mis s) (4 * c + 4).toNat), ?_, by rw [show 4 * (c + 1) = 4 * c + 4 by omega], by rw [show 4 * (c + 1) = 4 * c + 4 by omega], by omega⟩
      show FX12_mismatches_l4 N 113 (fun (s_2354 : iv_M) (x2355_1 : Int) => (some (x2355_1, s_2354))) (n + 1) x.1 x.2 c = FX12_mismatches_l4 N 113 (fun (s_2354 : iv_M) (x2355_1 : Int) => (some (x2355_1, s_2354))) n (fsM s (4 * c + 4).toNat) (su (mis s) (4 * c + 4).toNat) (c + 1)
      rw [FX12_mismatches_l4, if_neg (by omega), x1, x2, FX12_mm_in (by omega) hW hc c0 hd]
      unfold FX12_mismatches_b82
      rw [w32_id (by omega) (by omega)]) N 0 (s, 0) ⟨rfl, rfl, by omega⟩ (by omega) (by omega)
  have y2 : FX12_mismatches_l4 N 113 (fun (s_2354 : iv_M) (x2355_1 : Int) => (some (x2355_1, s_2354))) N s 0 0 = some (y.2, y.1) := y2
  rw [y2, y1.1, y1.2.1, ← mis_mm hW hc]
  rfl
-- the class
theorem FX1_first_in {N q : Nat} {s B : iv_M} {c : Int} {kx : Unit → Option Int} (hF : FRc s q B) (hW : Wa B) (c0 : 0 ≤ c) (c1 : c < 16) : ∀ (n : Nat) (d : Int), 0 ≤ d → d ≤ 4 → 4 - d < n → ffb (cms B) (4 * c + d).toNat = -1 → FX1_firstMismatch_l10 N s q c kx n d = if ffb (cms B) (4 * c + 4).toNat = -1 then kx () else some (ffb (cms B) (4 * c + 4).toNat) := by
  intro n
  induction n with
  | zero => intro d d0 d1 hn; omega
  | succ n ih =>
    intro d d0 d1 hn hz
    rw [FX1_firstMismatch_l10]
    by_cases e4 : d = 4
    · subst e4; rw [if_pos (by omega), if_pos hz]
    · rw [if_neg (by omega), rd_ok c0 c1, Option.bind_some, hF.2.2.2.1 c c0 c1]
      have hj : cms B ((4 * c + d).toNat : Int) = if B 121 c = -1 then 0 else ed B c d := by unfold cms; rw [show (((4 * c + d).toNat : Nat) : Int) / 4 = c by omega, show (((4 * c + d).toNat : Nat) : Int) % 4 = d by omega]
      have hn1 : (4 * c + (d + 1)).toNat = (4 * c + d).toNat + 1 := by omega
      unfold FX1_firstMismatch_b41
      rw [w32_id (x := d + 1) (by omega) (by omega)]
      by_cases e : B 121 c = -1
      · rw [if_pos e]
        rw [if_pos e] at hj
        exact ih (d + 1) (by omega) (by omega) (by omega) (by rw [hn1, ffb_stay (by rw [hj]; omega)]; exact hz)
      · rw [if_neg e, FX1_border_ok hF hW c0 c1 d0 (by omega), Option.bind_some]
        rw [if_neg e] at hj
        by_cases h1 : ed B c d = 1
        · rw [if_pos h1]
          have hf2 : ffb (cms B) ((4 * c + d).toNat + 1) = ((4 * c + d).toNat : Int) := by
            show (if ffb (cms B) (4 * c + d).toNat ≠ -1 then ffb (cms B) (4 * c + d).toNat else if cms B ((4 * c + d).toNat : Int) = 1 then (((4 * c + d).toNat : Nat) : Int) else -1) = _
            rw [if_neg (by omega), hj, if_pos h1]
          have hmon : ∀ k : Nat, ffb (cms B) ((4 * c + d).toNat + 1 + k) = ((4 * c + d).toNat : Int) := by
            intro k
            induction k with
            | zero => exact hf2
            | succ k ihk =>
              show (if ffb (cms B) ((4 * c + d).toNat + 1 + k) ≠ -1 then ffb (cms B) ((4 * c + d).toNat + 1 + k) else _) = _
              rw [if_pos (by omega), ihk]
          have := hmon (3 - d).toNat
          rw [show (4 * c + d).toNat + 1 + (3 - d).toNat = (4 * c + 4).toNat by omega] at this
          rw [this, if_neg (by omega), w32_id (x := 4 * c) (by omega) (by omega), w32_id (by omega) (by omega), show (((4 * c + d).toNat : Nat) : Int) = 4 * c + d by omega]
        · rw [if_neg h1]
          exact ih (d + 1) (by omega) (by omega) (by omega) (by rw [hn1, ffb_stay (by rw [hj]; exact h1)]; exact hz)
theorem FX1_first_out {N q : Nat} {s B : iv_M} (hF : FRc s q B) (hW : Wa B) (hN : 10 ≤ N) : ∀ (n : Nat) (c : Int), 0 ≤ c → c ≤ 16 → 16 - c < n → ffb (cms B) (4 * c).toNat = -1 → FX1_firstMismatch_l2 N s q (fun (_ : Unit) => (some (-1))) n c = some (ffb (cms B) 64) := by
  intro n
  induction n with
  | zero => intro d d0 d1 hn; omega
  | succ n ih =>
    intro c c0 c1 hn hz
    rw [FX1_firstMismatch_l2]
    by_cases e4 : c = 16
    · subst e4
      have hz : ffb (cms B) 64 = -1 := hz
      rw [if_pos (by omega), hz]
    · rw [if_neg (by omega), FX1_first_in hF hW c0 (by omega) N 0 (by omega) (by omega) (by omega) (by rw [Int.add_zero]; exact hz), w32_id (by omega) (by omega)]
      by_cases h : ffb (cms B) (4 * c + 4).toNat = -1
      · rw [if_pos h]
        exact ih (c + 1) (by omega) (by omega) (by omega) (by rw [show 4 * (c + 1) = 4 * c + 4 by omega]; exact h)
      · rw [if_neg h]
        have hmon : ∀ k : Nat, ffb (cms B) ((4 * c + 4).toNat + k) = ffb (cms B) (4 * c + 4).toNat := by
          intro k
          induction k with
          | zero => rfl
          | succ k ihk =>
            show (if ffb (cms B) ((4 * c + 4).toNat + k) ≠ -1 then ffb (cms B) ((4 * c + 4).toNat + k) else _) = _
            rw [if_pos (by rw [ihk]; exact h), ihk]
        have := hmon (60 - 4 * c).toNat
        rw [show (4 * c + 4).toNat + (60 - 4 * c).toNat = 64 by omega] at this
        rw [this]
theorem FX1_firstMismatch_ok {N q : Nat} {s B : iv_M} (hF : FRc s q B) (hW : Wa B) (hN : 100 ≤ N) : FX1_firstMismatch N s q = some (ffb (cms B) 64) := by
  unfold FX1_firstMismatch
  exact FX1_first_out hF hW (by omega) N 0 (by omega) (by omega) (by omega) rfl
