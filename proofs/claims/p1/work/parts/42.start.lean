/-! part 22: from a run of the interpreter on the law to the law's own walk -/
def gp_chkJ (w : Cond) : Bool := decide (w ∈ lw_tbl) || decide (w = Cond.isRef (.static "java/lang/Throwable" "UNASSIGNED_STACK" "[Ljava/lang/StackTraceElement;")) || decide (w = Cond.isRef (.static "java/lang/Throwable" "SUPPRESSED_SENTINEL" "Ljava/util/List;"))
theorem gp_chk1 : (Bundle.ownAtoms0 (gp_cn 1) 79 "java/lang/IllegalArgumentException" gp_nms2).all gp_chkJ = true := by decide +kernel
theorem gp_chk2 : (Bundle.ownAtoms0 (gp_cn 1) 93 "java/lang/UnsupportedOperationException" gp_nms2).all gp_chkJ = true := by decide +kernel
theorem gp_chk3 : (Bundle.ownAtoms0 (gp_cn 1) 207 "java/lang/IllegalStateException" gp_nms2).all gp_chkJ = true := by decide +kernel
theorem gp_x3 : ∀ x ∈ gp_xs, (x.2.2.1, x.2.2.2.2) = (9, 79) ∨ (x.2.2.1, x.2.2.2.2) = (10, 93) ∨ (x.2.2.1, x.2.2.2.2) = (11, 207) := by decide +kernel
theorem gp_JL_chk : ∀ w ∈ gp_JL, gp_chkJ w = true := by
  intro w hw
  obtain ⟨x, hx, hw⟩ := List.mem_flatMap.mp hw
  rcases gp_x3 x hx with h | h | h
  · have e1 : x.2.2.1 = 9 := congrArg Prod.fst h
    have e2 : x.2.2.2.2 = 79 := congrArg Prod.snd h
    rw [e1, e2] at hw
    exact List.all_eq_true.mp gp_chk1 w hw
  · have e1 : x.2.2.1 = 10 := congrArg Prod.fst h
    have e2 : x.2.2.2.2 = 93 := congrArg Prod.snd h
    rw [e1, e2] at hw
    exact List.all_eq_true.mp gp_chk2 w hw
  · have e1 : x.2.2.1 = 11 := congrArg Prod.fst h
    have e2 : x.2.2.2.2 = 207 := congrArg Prod.snd h
    rw [e1, e2] at hw
    exact List.all_eq_true.mp gp_chk3 w hw
theorem gp_lsm : Cond.laysStatic "java/lang/Throwable" "UNASSIGNED_STACK" "[Ljava/lang/StackTraceElement;" ∈ lw_tbl := by decide +kernel
def gp_okI (ci : Nat) (r : vw_C) : Bool := gp_is (gp_ip.getD ci 0) (.instantiable r.1 (gp_nsl ci))
theorem gp_okIs : gp_cl.zipIdx.all (fun x => gp_okI x.2 x.1) = true := by decide +kernel
section GP1
variable {p : Program} {l : Launch} {e : Env} {s : State} {m : MethodId} {below : List Frame} {meth : Method} {c : Code} {b : Nat}
theorem gp_words (hts : ∀ w ∈ lw_tbl, w.before #[Value.ref b] s = true) : ∀ w ∈ gp_LW, ∀ a : Array Value, w.before a s = true := fun w hw a => word_at (State.WarmedH.refl s) (good_of_word (List.mem_filter.mp hw).2) (hts w (List.mem_filter.mp hw).1)
theorem gp_D (hw : ∀ w ∈ gp_LW, ∀ a : Array Value, w.before a s = true) : ∃ D : va_G, ∀ (ci : Nat) (q : vw_C), gp_cl[ci]? = some q → u_Kn s q.1 q.2.1 q.2.2 (D.1 ci) (D.2 ci) := by
  have h : ∀ ci : Nat, ∃ (cC : ClassId) (iS : Nat → Nat), ∀ q : vw_C, gp_cl[ci]? = some q → u_Kn s q.1 q.2.1 q.2.2 cC iS := by
    intro ci
    cases hq : gp_cl[ci]? with
    | none => exact ⟨0, fun _ => 0, fun q h => by cases h⟩
    | some r =>
      obtain ⟨cC, iS, h⟩ := u_known (ws := gp_LW) (args := #[]) (s := s) (C := r.1) (T := r.2.1) (N := r.2.2) (fun w h => hw w h #[]) (gp_Cl ci r.1 r.2.1 r.2.2 hq).1 (hw _ (gp_is_in (gp_allx gp_okIs ci r hq)) #[])
      exact ⟨cC, iS, fun q e => by cases e; exact h⟩
  exact ⟨(fun ci => Classical.choose (h ci), fun ci => Classical.choose (Classical.choose_spec (h ci))), fun ci q hq => Classical.choose_spec (Classical.choose_spec (h ci)) q hq⟩
theorem gp_cA (hw : ∀ w ∈ gp_LW, ∀ a : Array Value, w.before a s = true) : ∃ cA : Nat → ClassId, ∀ t, t < 4 → ArrOfT s (cA t) (gk_ty t) ∧ va_RA s (cA t) (gk_ty t) := by
  have h : ∀ t : Nat, ∃ cA : ClassId, t < 4 → ArrOfT s cA (gk_ty t) ∧ va_RA s cA (gk_ty t) := by
    intro t
    by_cases ht : t < 4
    · obtain ⟨cA, kA, comp, h1, h2, h3⟩ := Cond.arrayClass_spec (hw _ (gp_arrs t ht) #[])
      refine ⟨cA, fun _ => ⟨fun n z => ⟨fun k h => (by cases h), kA, h2, comp, h3⟩, ?_⟩⟩
      rcases (show t = 0 ∨ t = 1 ∨ t = 2 ∨ t = 3 by omega) with rfl | rfl | rfl | rfl <;> exact h1
    · exact ⟨0, fun z => absurd z ht⟩
  exact ⟨fun t => Classical.choose (h t), fun t ht => Classical.choose_spec (h t) ht⟩
theorem gp_J0 (hts : ∀ w ∈ lw_tbl, w.before #[Value.ref b] s = true) (hgv : (Jvm.Cond.and given_1 narrow_1).before #[Value.ref b] s = true) : gp_J s.heap.size s := by
  have hf := flat_of_before _ hgv
  have hb : gp_Jb s.heap.size s := by
    intro c k a hc hk ha
    obtain ⟨c0, k0, i, f, a0, cell, g1, g2, -, g4, g5, -⟩ := Cond.laysStatic_spec (hts _ gp_lsm)
    cases hc.symm.trans g1
    cases hk.symm.trans (State.fieldFound?_spec g2).1
    cases ha.symm.trans g4
    exact (Array.getElem?_eq_some_iff.mp g5).1
  refine ⟨fun w hw => gp_kd_warm (State.WarmedH.refl s) (fun _ _ => rfl) hb (fun w hw => ⟨#[Value.ref b], ?_⟩) hw (List.all_eq_true.mp gp_kds w hw), hb, va_Nc.of (hf (Cond.not (.castable "java/lang/UnsupportedOperationException" "java/lang/IllegalArgumentException")) (by decide +kernel)), va_Nc.of (hf (Cond.not (.castable "java/lang/IllegalArgumentException" "java/lang/IllegalStateException")) (by decide +kernel))⟩
  have h := gp_JL_chk w hw
  unfold gp_chkJ at h
  simp only [Bool.or_eq_true, decide_eq_true_eq] at h
  rcases h with (h | rfl) | rfl
  · exact hts w h
  · exact hf _ (by decide +kernel)
  · exact hf _ (by decide +kernel)
end GP1
