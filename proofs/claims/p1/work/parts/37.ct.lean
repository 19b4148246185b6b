/-! printed by wip/whole/gen.py: the constructors' code words -/
def gp_ctl : List Nat := [1, 2, 3, 4, 5, 6, 7, 8, 140]
theorem gp_ct_1 : Cond.code (gp_yn 1) (gp_code 1) (gp_inf 1).1 none ∈ gp_LW := gp_t1 (List.mem_of_getElem? (i := 24) rfl) rfl
theorem gp_ct_2 : Cond.code (gp_yn 2) (gp_code 2) (gp_inf 2).1 none ∈ gp_LW := gp_t1 (List.mem_of_getElem? (i := 32) rfl) rfl
theorem gp_ct_3 : Cond.code (gp_yn 3) (gp_code 3) (gp_inf 3).1 none ∈ gp_LW := gp_t1 (List.mem_of_getElem? (i := 46) rfl) rfl
theorem gp_ct_4 : Cond.code (gp_yn 4) (gp_code 4) (gp_inf 4).1 none ∈ gp_LW := gp_t1 (List.mem_of_getElem? (i := 60) rfl) rfl
theorem gp_ct_5 : Cond.code (gp_yn 5) (gp_code 5) (gp_inf 5).1 none ∈ gp_LW := gp_t1 (List.mem_of_getElem? (i := 76) rfl) rfl
theorem gp_ct_6 : Cond.code (gp_yn 6) (gp_code 6) (gp_inf 6).1 none ∈ gp_LW := gp_t1 (List.mem_of_getElem? (i := 94) rfl) rfl
theorem gp_ct_7 : Cond.code (gp_yn 7) (gp_code 7) (gp_inf 7).1 none ∈ gp_LW := gp_t1 (List.mem_of_getElem? (i := 110) rfl) rfl
theorem gp_ct_8 : Cond.code (gp_yn 8) (gp_code 8) (gp_inf 8).1 none ∈ gp_LW := gp_t1 (List.mem_of_getElem? (i := 120) rfl) rfl
theorem gp_ct_140 : Cond.code (gp_yn 140) (gp_code 140) (gp_inf 140).1 none ∈ gp_LW := gp_t4 (List.mem_of_getElem? (i := 124) rfl) rfl
theorem gp_cts : ∀ mj ∈ gp_ctl, Cond.code (gp_yn mj) (gp_code mj) (gp_inf mj).1 none ∈ gp_LW := List.forall_mem_cons.mpr ⟨gp_ct_1, List.forall_mem_cons.mpr ⟨gp_ct_2, List.forall_mem_cons.mpr ⟨gp_ct_3, List.forall_mem_cons.mpr ⟨gp_ct_4, List.forall_mem_cons.mpr ⟨gp_ct_5, List.forall_mem_cons.mpr ⟨gp_ct_6, List.forall_mem_cons.mpr ⟨gp_ct_7, List.forall_mem_cons.mpr ⟨gp_ct_8, List.forall_mem_cons.mpr ⟨gp_ct_140, fun _ h => absurd h List.not_mem_nil⟩⟩⟩⟩⟩⟩⟩⟩⟩
