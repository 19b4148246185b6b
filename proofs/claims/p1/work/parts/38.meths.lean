/-! part 18: the printed calls of own methods are true of the program -/
def gp_okM (mj : Nat) : Bool := gp_is (gp_mw.getD mj (0, 0, 0, 0)).2.1 (.initialized (gp_yn mj).cls) && decide ((gp_yn mj).cls ≠ "java/lang/invoke/MethodHandle" ∧ (gp_yn mj).cls ≠ "java/lang/invoke/VarHandle") && plainFor (gp_yn mj) && decide ((gp_inf mj).1 ≤ 21)
theorem gp_okM_0 : (List.range' 1 24).all gp_okM = true := by decide +kernel
theorem gp_okM_1 : (List.range' 25 24).all gp_okM = true := by decide +kernel
theorem gp_okM_2 : (List.range' 49 24).all gp_okM = true := by decide +kernel
theorem gp_okM_3 : (List.range' 73 24).all gp_okM = true := by decide +kernel
theorem gp_okM_4 : (List.range' 97 24).all gp_okM = true := by decide +kernel
theorem gp_okM_5 : (List.range' 121 24).all gp_okM = true := by decide +kernel
theorem gp_okM_6 : (List.range' 145 24).all gp_okM = true := by decide +kernel
theorem gp_okM_7 : (List.range' 169 24).all gp_okM = true := by decide +kernel
theorem gp_okM_8 : (List.range' 193 23).all gp_okM = true := by decide +kernel
theorem gp_okMs (mj : Nat) (h1 : 1 ≤ mj) (h2 : mj < 216) : gp_okM mj = true := by
  rcases Nat.lt_or_ge mj 25 with g0 | g0
  · exact List.all_eq_true.mp gp_okM_0 mj (List.mem_range'_1.mpr ⟨h1, by omega⟩)
  rcases Nat.lt_or_ge mj 49 with g1 | g1
  · exact List.all_eq_true.mp gp_okM_1 mj (List.mem_range'_1.mpr ⟨g0, by omega⟩)
  rcases Nat.lt_or_ge mj 73 with g2 | g2
  · exact List.all_eq_true.mp gp_okM_2 mj (List.mem_range'_1.mpr ⟨g1, by omega⟩)
  rcases Nat.lt_or_ge mj 97 with g3 | g3
  · exact List.all_eq_true.mp gp_okM_3 mj (List.mem_range'_1.mpr ⟨g2, by omega⟩)
  rcases Nat.lt_or_ge mj 121 with g4 | g4
  · exact List.all_eq_true.mp gp_okM_4 mj (List.mem_range'_1.mpr ⟨g3, by omega⟩)
  rcases Nat.lt_or_ge mj 145 with g5 | g5
  · exact List.all_eq_true.mp gp_okM_5 mj (List.mem_range'_1.mpr ⟨g4, by omega⟩)
  rcases Nat.lt_or_ge mj 169 with g6 | g6
  · exact List.all_eq_true.mp gp_okM_6 mj (List.mem_range'_1.mpr ⟨g5, by omega⟩)
  rcases Nat.lt_or_ge mj 193 with g7 | g7
  · exact List.all_eq_true.mp gp_okM_7 mj (List.mem_range'_1.mpr ⟨g6, by omega⟩)
  exact List.all_eq_true.mp gp_okM_8 mj (List.mem_range'_1.mpr ⟨g7, by omega⟩)
