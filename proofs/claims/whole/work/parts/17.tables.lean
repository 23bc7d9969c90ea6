-- THE PROGRAM'S TABLES ARE TRUE OF THE CLASS FILES AND THE STATEMENT'S TABLES
def iv_fT (ci : Nat) : u_T := (iv_TS.getD ci (TX0, 0, tyX0)).1
def iv_fN (ci : Nat) : Nat := (iv_TS.getD ci (TX0, 0, tyX0)).2.1
def iv_fY (ci : Nat) : Nat → FieldType := (iv_TS.getD ci (TX0, 0, tyX0)).2.2
theorem iv_uws {C : String} {T : u_T} {N : Nat} {lp : List Nat} (h : ((List.range N).all fun k => iv_atb (lp.getD k 0) (u_lay C T k)) = true) : ∀ w ∈ u_ws C T N, w ∈ lw_g := by
  intro w hw
  obtain ⟨k, hk, rfl⟩ := List.mem_map.mp hw
  exact iv_atb_ok (List.all_eq_true.mp h k hk)
set_option maxRecDepth 100000 in
theorem iv_cl0 : iv_cl lw_g iv_df 0 (iv_cn 0) (iv_fT 0) (iv_fN 0) (iv_fY 0) := ⟨rfl, iv_uws (lp := iv_LP0) (by decide +kernel), tyX0_ok, nmX0, rfl⟩
set_option maxRecDepth 100000 in
theorem iv_cl1 : iv_cl lw_g iv_df 1 (iv_cn 1) (iv_fT 1) (iv_fN 1) (iv_fY 1) := ⟨rfl, iv_uws (lp := iv_LP1) (by decide +kernel), tyX1_ok, nmX1, rfl⟩
set_option maxRecDepth 100000 in
theorem iv_cl2 : iv_cl lw_g iv_df 2 (iv_cn 2) (iv_fT 2) (iv_fN 2) (iv_fY 2) := ⟨rfl, iv_uws (lp := iv_LP2) (by decide +kernel), tyX2_ok, nmX2, rfl⟩
set_option maxRecDepth 100000 in
theorem iv_cl3 : iv_cl lw_g iv_df 3 (iv_cn 3) (iv_fT 3) (iv_fN 3) (iv_fY 3) := ⟨rfl, iv_uws (lp := iv_LP3) (by decide +kernel), tyX3_ok, nmX3, rfl⟩
set_option maxRecDepth 100000 in
theorem iv_cl4 : iv_cl lw_g iv_df 4 (iv_cn 4) (iv_fT 4) (iv_fN 4) (iv_fY 4) := ⟨rfl, iv_uws (lp := iv_LP4) (by decide +kernel), tyX4_ok, nmX4, rfl⟩
set_option maxRecDepth 100000 in
theorem iv_cl5 : iv_cl lw_g iv_df 5 (iv_cn 5) (iv_fT 5) (iv_fN 5) (iv_fY 5) := ⟨rfl, iv_uws (lp := iv_LP5) (by decide +kernel), tyX5_ok, nmX5, rfl⟩
set_option maxRecDepth 100000 in
theorem iv_cl6 : iv_cl lw_g iv_df 6 (iv_cn 6) (iv_fT 6) (iv_fN 6) (iv_fY 6) := ⟨rfl, iv_uws (lp := iv_LP6) (by decide +kernel), tyX6_ok, nmX6, rfl⟩
set_option maxRecDepth 100000 in
theorem iv_cl7 : iv_cl lw_g iv_df 7 (iv_cn 7) (iv_fT 7) (iv_fN 7) (iv_fY 7) := ⟨rfl, iv_uws (lp := iv_LP7) (by decide +kernel), tyX7_ok, nmX7, rfl⟩
set_option maxRecDepth 100000 in
theorem iv_cl8 : iv_cl lw_g iv_df 8 (iv_cn 8) (iv_fT 8) (iv_fN 8) (iv_fY 8) := ⟨rfl, iv_uws (lp := iv_LP8) (by decide +kernel), tyX8_ok, nmX8, rfl⟩
set_option maxRecDepth 100000 in
theorem iv_cl9 : iv_cl lw_g iv_df 9 (iv_cn 9) (iv_fT 9) (iv_fN 9) (iv_fY 9) := ⟨rfl, iv_uws (lp := iv_LP9) (by decide +kernel), tyX9_ok, nmX9, rfl⟩
set_option maxRecDepth 100000 in
theorem iv_cl10 : iv_cl lw_g iv_df 10 (iv_cn 10) (iv_fT 10) (iv_fN 10) (iv_fY 10) := ⟨rfl, iv_uws (lp := iv_LP10) (by decide +kernel), tyX10_ok, nmX10, rfl⟩
set_option maxRecDepth 100000 in
theorem iv_cl11 : iv_cl lw_g iv_df 11 (iv_cn 11) (iv_fT 11) (iv_fN 11) (iv_fY 11) := ⟨rfl, iv_uws (lp := iv_LP11) (by decide +kernel), tyX11_ok, nmX11, rfl⟩
set_option maxRecDepth 100000 in
theorem iv_cl12 : iv_cl lw_g iv_df 12 (iv_cn 12) (iv_fT 12) (iv_fN 12) (iv_fY 12) := ⟨rfl, iv_uws (lp := iv_LP12) (by decide +kernel), tyX12_ok, nmX12, rfl⟩
theorem iv_cla {ci : Nat} (h : ci < 13) : iv_cl lw_g iv_df ci (iv_cn ci) (iv_fT ci) (iv_fN ci) (iv_fY ci) := by
  match ci, h with
  | 0, _ => exact iv_cl0
  | 1, _ => exact iv_cl1
  | 2, _ => exact iv_cl2
  | 3, _ => exact iv_cl3
  | 4, _ => exact iv_cl4
  | 5, _ => exact iv_cl5
  | 6, _ => exact iv_cl6
  | 7, _ => exact iv_cl7
  | 8, _ => exact iv_cl8
  | 9, _ => exact iv_cl9
  | 10, _ => exact iv_cl10
  | 11, _ => exact iv_cl11
  | 12, _ => exact iv_cl12
  | n + 13, h => omega
set_option maxRecDepth 100000 in
theorem iv_FL_ok : iv_FL.all (fun e => decide (e.2.2.2.1 < 13) && decide (e.2.2.2.2 < iv_fN e.2.2.2.1) && iv_atb e.1 (Cond.fieldLink (iv_cn e.2.1) e.2.2.1 (iv_fT e.2.2.2.1 e.2.2.2.2).1 (iv_fT e.2.2.2.1 e.2.2.2.2).2.1 (iv_fT e.2.2.2.1 e.2.2.2.2).2.2.1)) = true := by decide +kernel
def iv_tyb (t : Nat) (ty : FieldType) : Bool := match ty with
  | .int => decide (t = 0)
  | .long => decide (t = 1)
  | .boolean => decide (t = 2)
  | .object _ => decide (t = 3)
  | .array _ => decide (t = 3)
  | _ => false
theorem iv_tyb_ok {t : Nat} {ty : FieldType} (h : iv_tyb t ty = true) : iv_tyo (t : Int) ty := by
  unfold iv_tyb at h
  unfold iv_tyo
  cases ty <;> simp only [decide_eq_true_eq] at h <;> (first | (cases h; done) | skip)
  all_goals (subst h; simp)
set_option maxRecDepth 100000 in
theorem iv_PF_ok : iv_PF.all (fun e => decide ((iv_fT e.1 e.2.1).2.2.2 = decide (e.2.2.2 = 1)) && iv_tyb e.2.2.1 (iv_fY e.1 e.2.1) && decide ((iv_fT e.1 e.2.1).1 = iv_cn e.1)) = true := by decide +kernel
set_option maxRecDepth 100000 in
theorem iv_KI_ok : iv_KI.all (fun e => iv_atb e.1 (Cond.constant (iv_cn e.2.1) e.2.2.1 (Int32.ofInt e.2.2.2))) = true := by decide +kernel
set_option maxRecDepth 100000 in
theorem iv_KJ_ok : iv_KJ.all (fun e => iv_atb e.1 (Cond.constantLong (iv_cn e.2.1) e.2.2.1 (Int64.ofInt e.2.2.2))) = true := by decide +kernel
set_option maxRecDepth 100000 in
theorem iv_SX_ok : iv_SX.all (fun e => iv_tx.any (fun t => decide (t.1 = iv_cn e.1 ∧ t.2.1 = e.2.1 ∧ t.2.2.2 = e.2.2))) = true := by decide +kernel
set_option maxRecDepth 100000 in
theorem iv_CL_ok : iv_CL.all (fun e => iv_atb e.1 (Cond.classLink (iv_cn e.2.1) e.2.2.1 e.2.2.2)) = true := by decide +kernel
set_option maxRecDepth 100000 in
theorem iv_IP_ok : ((List.range 13).all fun ci => iv_atb (iv_IP.getD ci (0, 0)).1 (Cond.instantiable (iv_cn ci) (iv_fN ci)) && iv_atb (iv_IP.getD ci (0, 0)).2 (Cond.initialized (iv_cn ci))) = true := by decide +kernel
set_option maxRecDepth 100000 in
theorem iv_AP_ok : (iv_atb (iv_AP.getD 0 0) (Cond.arrayClass .int) && iv_atb (iv_AP.getD 1 0) (Cond.arrayClass .long) && iv_atb (iv_AP.getD 2 0) (Cond.arrayClass .byte) && iv_atb (iv_AP.getD 3 0) (Cond.arrayClass .boolean)) = true := by decide +kernel
set_option maxRecDepth 100000 in
theorem iv_NP_ok : (iv_atb (iv_NP.getD 0 0) (Cond.native arraycopyName) && iv_atb (iv_NP.getD 1 0) (Cond.static arraycopyName) && iv_atb (iv_NP.getD 2 0) (Cond.initialized "java/lang/System") && iv_atb (iv_NP.getD 3 0) (Cond.instanceMethod Lib.objectInit) && iv_atb (iv_NP.getD 4 0) (Cond.code Lib.objectInit ⟨#[0xb1]⟩ 1 none)) = true := by decide +kernel
set_option maxRecDepth 100000 in
theorem iv_GP_ok : Cond.fieldLinkNest (iv_cn 8) 155 "WalkingRooms" "RANKS" "[I" "WalkingRooms" ∈ iv_nest := List.mem_filter.mpr ⟨List.mem_of_getElem? (i := iv_GP) (by decide +kernel), rfl⟩
/-- a method that may be called -/
def iv_mwb (q : iv_I) (w : Nat × Nat × Nat × Nat × Nat) : Bool := iv_atb w.2.2.2.2 (Cond.initialized q.1.cls) && (if w.2.2.1 = 1 then iv_atb w.2.1 (Cond.static q.1) else iv_atb w.2.1 (Cond.instanceMethod q.1)) && decide (q.2.2.1 ≤ 40) && decide (q.1.cls ≠ "java/lang/invoke/MethodHandle") && decide (q.1.cls ≠ "java/lang/invoke/VarHandle")
def iv_mi (a : Nat) : iv_I := if a = 9001 then iv_mLen else if a = 9002 then iv_mAt else (iv_Z.getD a (iv_mLen, [])).1
def iv_mw (a : Nat) : Nat × Nat × Nat × Nat × Nat := if a = 9001 then iv_SW.getD 0 (0, 0, 0, 0, 0) else if a = 9002 then iv_SW.getD 1 (0, 0, 0, 0, 0) else iv_MW.getD a (0, 0, 0, 0, 0)
def iv_par (y : MethodName) (k : Nat) : Bool := decide ((parseMethodDescriptor y.desc).map (fun d => d.parameters.length) = some k)
/-- a link to a method -/
def iv_mlb (e : Nat × Nat × Nat × Nat × Nat × Nat × Nat) : Bool := match e with
  | (ps, oc, x, a, k, ne, kd) =>
    if a = 9000 then iv_atb ps (Cond.methodLink (iv_cn oc) x Lib.objectInit) && decide (ne = 0 ∧ kd = 1)
    else if a = 9003 then iv_atb ps (Cond.methodLink (iv_cn oc) x arraycopyName) && decide (ne = 0 ∧ kd = 2)
    else if a = 9004 then iv_atb ps (Cond.methodLink (iv_cn oc) x Lib.Math.min.name) && decide (ne = 0 ∧ kd = 2)
    else if a = 9005 then iv_atb ps (Cond.methodLink (iv_cn oc) x Lib.Math.max.name) && decide (ne = 0 ∧ kd = 2)
    else iv_UM.contains a && iv_par (iv_mi a).1 k && decide ((iv_mw a).2.2.1 = (if kd = 2 then 1 else 0)) &&
      (if ne = 1 then decide (lw_tbl[ps]? = some (Cond.methodLinkNest (iv_cn oc) x (iv_mi a).1 "WalkingRooms")) else iv_atb ps (Cond.methodLink (iv_cn oc) x (iv_mi a).1)) &&
      (if kd = 0 then iv_atb (iv_mw a).2.2.2.1 (Cond.selects (iv_mi a).1.cls (iv_mi a).1 (iv_mi a).1) && (if a = 9001 ∨ a = 9002 then decide ((iv_mi a).1.cls = "java/lang/String") else decide ((iv_mi a).2.2.2.2 < 13) && decide ((iv_mi a).1.cls = iv_cn (iv_mi a).2.2.2.2)) else true) &&
      (if kd = 1 then decide ((iv_mi a).1.name = "<init>") && decide ((iv_mi a).2.2.2.1 = none) else true)
set_option maxRecDepth 100000 in
theorem iv_Z_len : iv_Z.length = 352 := by decide +kernel
set_option maxRecDepth 100000 in
theorem iv_Z_cn : iv_Z.all (fun q => decide (q.1.1.cls = iv_cn q.1.2.2.2.2) && plainName q.1.1.cls) = true := by decide +kernel
set_option maxRecDepth 100000 in
theorem iv_XP_ok : (iv_atb (iv_XP.getD 0 0) (Cond.static Lib.Math.min.name) && iv_atb (iv_XP.getD 1 0) (Cond.static Lib.Math.max.name) && iv_atb (iv_XP.getD 2 0) (Cond.initialized "java/lang/Math") && iv_atb (iv_XP.getD 3 0) (Cond.code Lib.Math.min.name Lib.Math.min.code 2 (some .int)) && iv_atb (iv_XP.getD 4 0) (Cond.code Lib.Math.max.name Lib.Math.max.code 2 (some .int))) = true := by decide +kernel
theorem iv_allapp {α : Type} {f : α → Bool} {a b : List α} (ha : a.all f = true) (hb : b.all f = true) : (a ++ b).all f = true := by rw [List.all_append, ha, hb]; rfl
def iv_umb (a : Nat) : Bool := decide ((a = 9001 ∨ a = 9002) ∨ a < 351) && iv_mwb (iv_mi a) (iv_mw a)
-- @UM begin (written by wip/whole/emit2.py)
set_option maxRecDepth 100000 in
theorem iv_UM0_ok : iv_UM0.all iv_umb = true := by decide +kernel
set_option maxRecDepth 100000 in
theorem iv_UM1_ok : iv_UM1.all iv_umb = true := by decide +kernel
set_option maxRecDepth 100000 in
theorem iv_UM2_ok : iv_UM2.all iv_umb = true := by decide +kernel
set_option maxRecDepth 100000 in
theorem iv_UM3_ok : iv_UM3.all iv_umb = true := by decide +kernel
set_option maxRecDepth 100000 in
theorem iv_UM4_ok : iv_UM4.all iv_umb = true := by decide +kernel
set_option maxRecDepth 100000 in
theorem iv_UM5_ok : iv_UM5.all iv_umb = true := by decide +kernel
set_option maxRecDepth 100000 in
theorem iv_UM6_ok : iv_UM6.all iv_umb = true := by decide +kernel
set_option maxRecDepth 100000 in
theorem iv_UM7_ok : iv_UM7.all iv_umb = true := by decide +kernel
set_option maxRecDepth 100000 in
theorem iv_UM8_ok : iv_UM8.all iv_umb = true := by decide +kernel
theorem iv_UM_ok : iv_UM.all iv_umb = true := iv_allapp iv_UM0_ok (iv_allapp iv_UM1_ok (iv_allapp iv_UM2_ok (iv_allapp iv_UM3_ok (iv_allapp iv_UM4_ok (iv_allapp iv_UM5_ok (iv_allapp iv_UM6_ok (iv_allapp iv_UM7_ok (iv_UM8_ok))))))))
set_option maxRecDepth 100000 in
theorem iv_ML0_ok : iv_ML0.all iv_mlb = true := by decide +kernel
set_option maxRecDepth 100000 in
theorem iv_ML1_ok : iv_ML1.all iv_mlb = true := by decide +kernel
set_option maxRecDepth 100000 in
theorem iv_ML2_ok : iv_ML2.all iv_mlb = true := by decide +kernel
set_option maxRecDepth 100000 in
theorem iv_ML3_ok : iv_ML3.all iv_mlb = true := by decide +kernel
set_option maxRecDepth 100000 in
theorem iv_ML4_ok : iv_ML4.all iv_mlb = true := by decide +kernel
set_option maxRecDepth 100000 in
theorem iv_ML5_ok : iv_ML5.all iv_mlb = true := by decide +kernel
set_option maxRecDepth 100000 in
theorem iv_ML6_ok : iv_ML6.all iv_mlb = true := by decide +kernel
set_option maxRecDepth 100000 in
theorem iv_ML7_ok : iv_ML7.all iv_mlb = true := by decide +kernel
set_option maxRecDepth 100000 in
theorem iv_ML8_ok : iv_ML8.all iv_mlb = true := by decide +kernel
set_option maxRecDepth 100000 in
theorem iv_ML9_ok : iv_ML9.all iv_mlb = true := by decide +kernel
set_option maxRecDepth 100000 in
theorem iv_ML10_ok : iv_ML10.all iv_mlb = true := by decide +kernel
set_option maxRecDepth 100000 in
theorem iv_ML11_ok : iv_ML11.all iv_mlb = true := by decide +kernel
theorem iv_ML_ok : iv_ML.all iv_mlb = true := iv_allapp iv_ML0_ok (iv_allapp iv_ML1_ok (iv_allapp iv_ML2_ok (iv_allapp iv_ML3_ok (iv_allapp iv_ML4_ok (iv_allapp iv_ML5_ok (iv_allapp iv_ML6_ok (iv_allapp iv_ML7_ok (iv_allapp iv_ML8_ok (iv_allapp iv_ML9_ok (iv_allapp iv_ML10_ok (iv_ML11_ok)))))))))))
-- @UM end
