/-! part 16: the printed calls are true of the program -/
theorem gp_arrs : ∀ t, t < 4 → Cond.arrayClass (gk_ty t) ∈ gp_LW := by
  have h : (List.range 4).all (fun t => gp_is (gp_ar.getD t 0) (.arrayClass (gk_ty t))) = true := by decide +kernel
  intro t ht
  exact gp_is_in (List.all_eq_true.mp h t (List.mem_range.mpr ht))
def gp_okX (c : Nat) (q : Nat × (Nat × Nat × Nat × Nat) × Nat) : Bool := match q.2.1.1 with
  | 3 => gp_is q.2.2 (.methodLink (gp_cn c) q.1 Lib.objectInit)
  | 4 => gp_is q.2.2 (.methodLink (gp_cn c) q.1 arraycopyName)
  | 5 => gp_is q.2.2 (.methodLink (gp_cn c) q.1 Lib.MathLoose.min_long.x)
  | _ => true
theorem gp_okXs : gp_mls.zipIdx.all (fun x => x.1.all (gp_okX x.2)) = true := by decide +kernel
theorem gp_lib1 : gp_is (gp_lib.getD 0 0) (.instanceMethod Lib.objectInit) = true ∧ gp_is (gp_lib.getD 1 0) (.code Lib.objectInit ⟨#[0xb1]⟩ 1 none) = true := by decide +kernel
theorem gp_lib2 : gp_is (gp_lib.getD 2 0) (.native arraycopyName) = true ∧ gp_is (gp_lib.getD 3 0) (.static arraycopyName) = true ∧ gp_is (gp_lib.getD 4 0) (.initialized "java/lang/System") = true := by decide +kernel
theorem gp_lib3 : gp_is (gp_lib.getD 5 0) (.static Lib.MathLoose.min_long.x) = true ∧ gp_is (gp_lib.getD 6 0) (.initialized "java/lang/Math") = true ∧ gp_is (gp_lib.getD 7 0) (.code Lib.MathLoose.min_long.x Lib.MathLoose.min_long.code 4 (some .long)) = true := by decide +kernel
theorem gp_mth_mem {mi idx : Nat} {r : Nat × Nat × Nat × Nat} (h : gk_mth gp_P mi idx = some r) : ∃ n, (idx, r, n) ∈ gp_mls.getD (gp_own mi) [] := by
  have h : gp_mth mi idx = some r := h
  unfold gp_mth at h
  split at h
  · rename_i q hq
    cases h
    exact ⟨q.2, gp_fnd_mem _ _ _ hq⟩
  · cases h
theorem gp_TX : gk_TX gp_P gp_yn gp_LW := by
  intro mi idx x y z
  refine ⟨fun h => ?_, fun h => ?_, fun h => ?_⟩
  · obtain ⟨n, hn⟩ := gp_mth_mem h
    have h2 := gp_all gp_okXs (gp_own mi) _ hn
    exact ⟨gp_is_in h2, gp_is_in gp_lib1.1, gp_is_in gp_lib1.2⟩
  · obtain ⟨n, hn⟩ := gp_mth_mem h
    have h2 := gp_all gp_okXs (gp_own mi) _ hn
    exact ⟨gp_is_in h2, gp_is_in gp_lib2.1, gp_is_in gp_lib2.2.1, gp_is_in gp_lib2.2.2⟩
  · obtain ⟨n, hn⟩ := gp_mth_mem h
    have h2 := gp_all gp_okXs (gp_own mi) _ hn
    exact ⟨gp_is_in h2, gp_is_in gp_lib3.1, gp_is_in gp_lib3.2.1, gp_is_in gp_lib3.2.2⟩
theorem gp_TT : gk_TT gp_P gp_yn gp_cl gp_LW := ⟨gp_Cl, gp_TF, gp_TP, gp_TN, gp_TC, gp_arrs, gp_TX⟩
