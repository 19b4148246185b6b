/-! part 17: every method that is called has its words -/
theorem gp_okM_0 : (List.range' 1 36).all gp_okM = true := by decide +kernel
theorem gp_okM_1 : (List.range' 37 36).all gp_okM = true := by decide +kernel
theorem gp_okM_2 : (List.range' 73 36).all gp_okM = true := by decide +kernel
theorem gp_okM_3 : (List.range' 109 36).all gp_okM = true := by decide +kernel
theorem gp_okM_4 : (List.range' 145 36).all gp_okM = true := by decide +kernel
theorem gp_okM_5 : (List.range' 181 35).all gp_okM = true := by decide +kernel
theorem gp_okMs (mj : Nat) (h1 : 1 ≤ mj) (h2 : mj < 216) : gp_okM mj = true := by
  rcases Nat.lt_or_ge mj 37 with g0 | g0
  · exact List.all_eq_true.mp gp_okM_0 mj (List.mem_range'_1.mpr ⟨h1, by omega⟩)
  rcases Nat.lt_or_ge mj 73 with g1 | g1
  · exact List.all_eq_true.mp gp_okM_1 mj (List.mem_range'_1.mpr ⟨g0, by omega⟩)
  rcases Nat.lt_or_ge mj 109 with g2 | g2
  · exact List.all_eq_true.mp gp_okM_2 mj (List.mem_range'_1.mpr ⟨g1, by omega⟩)
  rcases Nat.lt_or_ge mj 145 with g3 | g3
  · exact List.all_eq_true.mp gp_okM_3 mj (List.mem_range'_1.mpr ⟨g2, by omega⟩)
  rcases Nat.lt_or_ge mj 181 with g4 | g4
  · exact List.all_eq_true.mp gp_okM_4 mj (List.mem_range'_1.mpr ⟨g3, by omega⟩)
  rcases Nat.lt_or_ge mj 216 with g5 | g5
  · exact List.all_eq_true.mp gp_okM_5 mj (List.mem_range'_1.mpr ⟨g4, by omega⟩)
  omega
