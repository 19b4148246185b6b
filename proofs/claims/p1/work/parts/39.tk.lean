/-! part 19: links of calls -/
def gp_okK (c : Nat) (q : Nat × (Nat × Nat × Nat × Nat) × Nat) : Bool := match q.2.1 with
  | (kind, mj, na, ci) => if kind < 3 then
      decide (1 ≤ mj ∧ mj < 216) && decide ((parseMethodDescriptor (gp_yn mj).desc).map (fun d => d.parameters.length) = some na) && gp_is q.2.2 (.methodLink (gp_cn c) q.1 (gp_yn mj)) &&
      (bif Nat.beq kind 0 then gp_is (gp_mw.getD mj (0, 0, 0, 0)).2.2.1 (.static (gp_yn mj)) else true) &&
      (bif Nat.beq kind 1 then gp_is (gp_mw.getD mj (0, 0, 0, 0)).2.2.1 (.instanceMethod (gp_yn mj)) && (match gp_cl[ci]? with
        | some r => gp_is (gp_mw.getD mj (0, 0, 0, 0)).2.2.2 (.selects r.1 (gp_yn mj) (gp_yn mj))
        | none => false) else true) &&
      (bif Nat.beq kind 2 then decide ((gp_yn mj).name = "<init>") && gp_is (gp_mw.getD mj (0, 0, 0, 0)).2.2.1 (.instanceMethod (gp_yn mj)) && decide (mj ∈ gp_ctl) else true)
    else true
theorem gp_okK_0_0 : (((gp_mls.getD 0 []).drop 0).take 25).all (gp_okK 0) = true := by decide +kernel
theorem gp_okK_0_25 : (((gp_mls.getD 0 []).drop 25).take 25).all (gp_okK 0) = true := by decide +kernel
theorem gp_okK_0_50 : (((gp_mls.getD 0 []).drop 50).take 3).all (gp_okK 0) = true := by decide +kernel
theorem gp_okK_1_0 : (((gp_mls.getD 1 []).drop 0).take 25).all (gp_okK 1) = true := by decide +kernel
theorem gp_okK_1_25 : (((gp_mls.getD 1 []).drop 25).take 25).all (gp_okK 1) = true := by decide +kernel
theorem gp_okK_1_50 : (((gp_mls.getD 1 []).drop 50).take 3).all (gp_okK 1) = true := by decide +kernel
theorem gp_okK_2_0 : (((gp_mls.getD 2 []).drop 0).take 25).all (gp_okK 2) = true := by decide +kernel
theorem gp_okK_2_25 : (((gp_mls.getD 2 []).drop 25).take 25).all (gp_okK 2) = true := by decide +kernel
theorem gp_okK_2_50 : (((gp_mls.getD 2 []).drop 50).take 3).all (gp_okK 2) = true := by decide +kernel
theorem gp_okK_3_0 : (((gp_mls.getD 3 []).drop 0).take 24).all (gp_okK 3) = true := by decide +kernel
theorem gp_okK_4_0 : (((gp_mls.getD 4 []).drop 0).take 7).all (gp_okK 4) = true := by decide +kernel
theorem gp_okK_5_0 : (((gp_mls.getD 5 []).drop 0).take 7).all (gp_okK 5) = true := by decide +kernel
theorem gp_okK_6_0 : (((gp_mls.getD 6 []).drop 0).take 25).all (gp_okK 6) = true := by decide +kernel
theorem gp_okK_6_25 : (((gp_mls.getD 6 []).drop 25).take 12).all (gp_okK 6) = true := by decide +kernel
theorem gp_okK_7_0 : (((gp_mls.getD 7 []).drop 0).take 15).all (gp_okK 7) = true := by decide +kernel
theorem gp_okK_8_0 : (((gp_mls.getD 8 []).drop 0).take 18).all (gp_okK 8) = true := by decide +kernel
theorem gp_okK_9_0 : (((gp_mls.getD 9 []).drop 0).take 8).all (gp_okK 9) = true := by decide +kernel
theorem gp_okK_10_0 : (((gp_mls.getD 10 []).drop 0).take 8).all (gp_okK 10) = true := by decide +kernel
theorem gp_okK_11_0 : (((gp_mls.getD 11 []).drop 0).take 23).all (gp_okK 11) = true := by decide +kernel
theorem gp_cut {α : Type} {f : α → Bool} {l : List α} {a b : Nat} {q : α} (h1 : ((l.drop a).take b).all f = true) (h2 : q ∈ l.drop a → q ∉ l.drop (a + b) → f q = true → True) (hq : q ∈ l.drop a) : f q = true ∨ q ∈ l.drop (a + b) := by
  rw [← List.take_append_drop b (l.drop a)] at hq
  rcases List.mem_append.mp hq with h | h
  · exact Or.inl (List.all_eq_true.mp h1 q h)
  · rw [List.drop_drop] at h
    exact Or.inr h
theorem gp_okKs (c : Nat) (q : Nat × (Nat × Nat × Nat × Nat) × Nat) (hq : q ∈ gp_mls.getD c []) : gp_okK c q = true := by
  rcases Nat.lt_or_ge c 1 with h | h0
  · obtain rfl : c = 0 := by omega
    rw [← List.drop_zero (l := gp_mls.getD 0 [])] at hq
    rcases gp_cut (b := 25) gp_okK_0_0 (fun _ _ _ => trivial) hq with h | hq
    · exact h
    rcases gp_cut (b := 25) gp_okK_0_25 (fun _ _ _ => trivial) hq with h | hq
    · exact h
    rcases gp_cut (b := 3) gp_okK_0_50 (fun _ _ _ => trivial) hq with h | hq
    · exact h
    exact absurd hq (by rw [List.drop_eq_nil_of_le (Nat.le_of_ble_eq_true rfl)]; exact List.not_mem_nil)
  rcases Nat.lt_or_ge c 2 with h | h1
  · obtain rfl : c = 1 := by omega
    rw [← List.drop_zero (l := gp_mls.getD 1 [])] at hq
    rcases gp_cut (b := 25) gp_okK_1_0 (fun _ _ _ => trivial) hq with h | hq
    · exact h
    rcases gp_cut (b := 25) gp_okK_1_25 (fun _ _ _ => trivial) hq with h | hq
    · exact h
    rcases gp_cut (b := 3) gp_okK_1_50 (fun _ _ _ => trivial) hq with h | hq
    · exact h
    exact absurd hq (by rw [List.drop_eq_nil_of_le (Nat.le_of_ble_eq_true rfl)]; exact List.not_mem_nil)
  rcases Nat.lt_or_ge c 3 with h | h2
  · obtain rfl : c = 2 := by omega
    rw [← List.drop_zero (l := gp_mls.getD 2 [])] at hq
    rcases gp_cut (b := 25) gp_okK_2_0 (fun _ _ _ => trivial) hq with h | hq
    · exact h
    rcases gp_cut (b := 25) gp_okK_2_25 (fun _ _ _ => trivial) hq with h | hq
    · exact h
    rcases gp_cut (b := 3) gp_okK_2_50 (fun _ _ _ => trivial) hq with h | hq
    · exact h
    exact absurd hq (by rw [List.drop_eq_nil_of_le (Nat.le_of_ble_eq_true rfl)]; exact List.not_mem_nil)
  rcases Nat.lt_or_ge c 4 with h | h3
  · obtain rfl : c = 3 := by omega
    rw [← List.drop_zero (l := gp_mls.getD 3 [])] at hq
    rcases gp_cut (b := 24) gp_okK_3_0 (fun _ _ _ => trivial) hq with h | hq
    · exact h
    exact absurd hq (by rw [List.drop_eq_nil_of_le (Nat.le_of_ble_eq_true rfl)]; exact List.not_mem_nil)
  rcases Nat.lt_or_ge c 5 with h | h4
  · obtain rfl : c = 4 := by omega
    rw [← List.drop_zero (l := gp_mls.getD 4 [])] at hq
    rcases gp_cut (b := 7) gp_okK_4_0 (fun _ _ _ => trivial) hq with h | hq
    · exact h
    exact absurd hq (by rw [List.drop_eq_nil_of_le (Nat.le_of_ble_eq_true rfl)]; exact List.not_mem_nil)
  rcases Nat.lt_or_ge c 6 with h | h5
  · obtain rfl : c = 5 := by omega
    rw [← List.drop_zero (l := gp_mls.getD 5 [])] at hq
    rcases gp_cut (b := 7) gp_okK_5_0 (fun _ _ _ => trivial) hq with h | hq
    · exact h
    exact absurd hq (by rw [List.drop_eq_nil_of_le (Nat.le_of_ble_eq_true rfl)]; exact List.not_mem_nil)
  rcases Nat.lt_or_ge c 7 with h | h6
  · obtain rfl : c = 6 := by omega
    rw [← List.drop_zero (l := gp_mls.getD 6 [])] at hq
    rcases gp_cut (b := 25) gp_okK_6_0 (fun _ _ _ => trivial) hq with h | hq
    · exact h
    rcases gp_cut (b := 12) gp_okK_6_25 (fun _ _ _ => trivial) hq with h | hq
    · exact h
    exact absurd hq (by rw [List.drop_eq_nil_of_le (Nat.le_of_ble_eq_true rfl)]; exact List.not_mem_nil)
  rcases Nat.lt_or_ge c 8 with h | h7
  · obtain rfl : c = 7 := by omega
    rw [← List.drop_zero (l := gp_mls.getD 7 [])] at hq
    rcases gp_cut (b := 15) gp_okK_7_0 (fun _ _ _ => trivial) hq with h | hq
    · exact h
    exact absurd hq (by rw [List.drop_eq_nil_of_le (Nat.le_of_ble_eq_true rfl)]; exact List.not_mem_nil)
  rcases Nat.lt_or_ge c 9 with h | h8
  · obtain rfl : c = 8 := by omega
    rw [← List.drop_zero (l := gp_mls.getD 8 [])] at hq
    rcases gp_cut (b := 18) gp_okK_8_0 (fun _ _ _ => trivial) hq with h | hq
    · exact h
    exact absurd hq (by rw [List.drop_eq_nil_of_le (Nat.le_of_ble_eq_true rfl)]; exact List.not_mem_nil)
  rcases Nat.lt_or_ge c 10 with h | h9
  · obtain rfl : c = 9 := by omega
    rw [← List.drop_zero (l := gp_mls.getD 9 [])] at hq
    rcases gp_cut (b := 8) gp_okK_9_0 (fun _ _ _ => trivial) hq with h | hq
    · exact h
    exact absurd hq (by rw [List.drop_eq_nil_of_le (Nat.le_of_ble_eq_true rfl)]; exact List.not_mem_nil)
  rcases Nat.lt_or_ge c 11 with h | h10
  · obtain rfl : c = 10 := by omega
    rw [← List.drop_zero (l := gp_mls.getD 10 [])] at hq
    rcases gp_cut (b := 8) gp_okK_10_0 (fun _ _ _ => trivial) hq with h | hq
    · exact h
    exact absurd hq (by rw [List.drop_eq_nil_of_le (Nat.le_of_ble_eq_true rfl)]; exact List.not_mem_nil)
  rcases Nat.lt_or_ge c 12 with h | h11
  · obtain rfl : c = 11 := by omega
    rw [← List.drop_zero (l := gp_mls.getD 11 [])] at hq
    rcases gp_cut (b := 23) gp_okK_11_0 (fun _ _ _ => trivial) hq with h | hq
    · exact h
    exact absurd hq (by rw [List.drop_eq_nil_of_le (Nat.le_of_ble_eq_true rfl)]; exact List.not_mem_nil)
  · rw [List.getD_eq_getElem?_getD, List.getElem?_eq_none (show gp_mls.length ≤ c from h11)] at hq
    cases hq
theorem gp_TK : gk_TK gp_P gp_yn gp_code gp_hh gp_cl gp_LW := by
  intro mi idx kind mj na ci h hk
  obtain ⟨n, hn⟩ := gp_mth_mem h
  have h2 := gp_okKs (gp_own mi) _ hn
  unfold gp_okK at h2
  dsimp only at h2
  rw [if_pos hk] at h2
  simp only [Bool.and_eq_true, decide_eq_true_eq] at h2
  obtain ⟨⟨⟨⟨⟨g1, g6⟩, g7⟩, g8⟩, g9⟩, g10⟩ := h2
  have hM := gp_okMs mj g1.1 g1.2
  unfold gp_okM at hM
  simp only [Bool.and_eq_true, decide_eq_true_eq] at hM
  obtain ⟨⟨⟨g2, g3⟩, g4⟩, g5⟩ := hM
  refine ⟨gp_Cws mj g1.1 g1.2, gp_is_in g2, g3, g4, g5, g6, Or.inl (gp_is_in g7), fun e => ?_, fun e => ?_, fun e => ?_⟩
  · subst e
    exact gp_is_in g8
  · subst e
    have g9 : (gp_is (gp_mw.getD mj (0, 0, 0, 0)).2.2.1 (.instanceMethod (gp_yn mj)) && (match gp_cl[ci]? with
        | some r => gp_is (gp_mw.getD mj (0, 0, 0, 0)).2.2.2 (.selects r.1 (gp_yn mj) (gp_yn mj))
        | none => false)) = true := g9
    simp only [Bool.and_eq_true] at g9
    refine ⟨gp_is_in g9.1, ?_⟩
    have g := g9.2
    split at g
    · rename_i r hr
      exact ⟨r.1, r.2.1, r.2.2, hr, gp_is_in g⟩
    · cases g
  · subst e
    have g10 : (decide ((gp_yn mj).name = "<init>") && gp_is (gp_mw.getD mj (0, 0, 0, 0)).2.2.1 (.instanceMethod (gp_yn mj)) && decide (mj ∈ gp_ctl)) = true := g10
    simp only [Bool.and_eq_true, decide_eq_true_eq] at g10
    exact ⟨g10.1.1, gp_is_in g10.1.2, gp_cts mj g10.2⟩
