-- THE PROGRAM (written by wip/whole/emit2.py)
def iv_Z : List (iv_I × List iv_R) := iv_Z0 ++ (iv_Z1 ++ (iv_Z2 ++ (iv_Z3 ++ (iv_Z4 ++ (iv_Z5 ++ (iv_Z6 ++ (iv_Z7 ++ (iv_Z8 ++ (iv_Z9 ++ (iv_Z10 ++ (iv_Z11 ++ (iv_Z12 ++ (iv_Z13)))))))))))))
theorem iv_Z_ok : ∀ q ∈ iv_Z, q.2.all (iv_chk q.1) = true := List.forall_mem_append.mpr ⟨iv_Z0_ok, List.forall_mem_append.mpr ⟨iv_Z1_ok, List.forall_mem_append.mpr ⟨iv_Z2_ok, List.forall_mem_append.mpr ⟨iv_Z3_ok, List.forall_mem_append.mpr ⟨iv_Z4_ok, List.forall_mem_append.mpr ⟨iv_Z5_ok, List.forall_mem_append.mpr ⟨iv_Z6_ok, List.forall_mem_append.mpr ⟨iv_Z7_ok, List.forall_mem_append.mpr ⟨iv_Z8_ok, List.forall_mem_append.mpr ⟨iv_Z9_ok, List.forall_mem_append.mpr ⟨iv_Z10_ok, List.forall_mem_append.mpr ⟨iv_Z11_ok, List.forall_mem_append.mpr ⟨iv_Z12_ok, iv_Z13_ok⟩⟩⟩⟩⟩⟩⟩⟩⟩⟩⟩⟩⟩
def iv_lk (pc : Nat) : List iv_R → Option iv_F
  | [] => none
  | r :: t => if r.1 = pc then some r.2 else iv_lk pc t
def PG : iv_Pg := (fun a pc => (iv_Z[a]?).bind fun q => iv_lk pc q.2, fun a => if a = 9001 then some iv_mLen else if a = 9002 then some iv_mAt else (iv_Z[a]?).map (fun q => q.1))
