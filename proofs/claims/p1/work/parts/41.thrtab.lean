/-! part 21: throws and handlers of the program -/
theorem gp_kds : gp_JL.all gp_kd = true := by decide +kernel
theorem gp_J_warm (sz : Nat) : ∀ s U : State, gp_J sz s → s.WarmedH U.vm → (∀ q, q < sz → U.heap[q]? = s.heap[q]?) → gp_J sz U := fun s U h hW hH =>
  ⟨fun w hw => gp_kd_warm hW hH h.2.1 (fun w hw => ⟨#[], h.1 w hw #[]⟩) hw (List.all_eq_true.mp gp_kds w hw), gp_Jb_moved hW h.2.1, va_Nc.moved hW.alike h.2.2.1, va_Nc.moved hW.alike h.2.2.2⟩
theorem gp_xf_mem : ∀ (l : List (Nat × Nat × Nat × Nat × Nat)) (mi pc : Nat) (x : Nat × Nat × Nat), gp_xf l mi pc = some x → (mi, pc, x) ∈ l
  | [], mi, pc, x, h => by simp [gp_xf] at h
  | q :: r, mi, pc, x, h => by
    unfold gp_xf at h
    cases hb : (Nat.beq q.1 mi && Nat.beq q.2.1 pc) with
    | true =>
      rw [hb] at h
      simp only [Bool.and_eq_true] at hb
      have e1 : q.1 = mi := Nat.eq_of_beq_eq_true hb.1
      have e3 : q.2.1 = pc := Nat.eq_of_beq_eq_true hb.2
      have e2 : q.2.2 = x := Option.some.inj h
      subst e1; subst e2; subst e3
      exact List.mem_cons_self
    | false =>
      rw [hb] at h
      exact List.mem_cons_of_mem _ (gp_xf_mem r mi pc x h)
theorem gp_hf_mem : ∀ (l : List (Nat × Nat × Nat × Nat × Nat × Nat)) (mi ci : Nat) (x : Nat × Nat × Nat × Nat), gp_hf l mi ci = some x → (mi, ci, x) ∈ l
  | [], mi, ci, x, h => by simp [gp_hf] at h
  | q :: r, mi, ci, x, h => by
    unfold gp_hf at h
    cases hb : (Nat.beq q.1 mi && Nat.beq q.2.1 ci) with
    | true =>
      rw [hb] at h
      simp only [Bool.and_eq_true] at hb
      have e1 : q.1 = mi := Nat.eq_of_beq_eq_true hb.1
      have e3 : q.2.1 = ci := Nat.eq_of_beq_eq_true hb.2
      have e2 : q.2.2 = x := Option.some.inj h
      subst e1; subst e2; subst e3
      exact List.mem_cons_self
    | false =>
      rw [hb] at h
      exact List.mem_cons_of_mem _ (gp_hf_mem r mi ci x h)
def gp_okY (j : Nat) (x : Nat × Nat × Nat × Nat × Nat) : Bool := match x with
  | (mi, pc, ci, idx, ic) => (match gp_cl[ci]? with
    | some r => decide (decode (gp_code mi) pc = .ok (.new idx, 3)) && decide (decode (gp_code mi) (pc + 3) = .ok (.dup, 1)) && decide (decode (gp_code mi) (pc + 3 + 1) = .ok (.invokespecial ic, 3)) && decide (decode (gp_code mi) (pc + 3 + 1 + 3) = .ok (.athrow, 1)) && decide (gp_hh mi = []) && decide (r.2.2 = 0) && decide (gp_nsl ci = 6) && Bundle.fit r.1 && decide (gp_own mi = 1) &&
      gp_is (gp_xw.getD j (0, 0)).1 (.classLink (gp_cn (gp_own mi)) idx r.1) && gp_is (gp_ip.getD ci 0) (.instantiable r.1 6) && gp_is (gp_iz.getD ci 0) (.initialized r.1)
    | none => false)
theorem gp_okYs : gp_xs.zipIdx.all (fun x => gp_okY x.2 x.1) = true := by decide +kernel
theorem gp_fitN : ∀ n ∈ gp_nms2, Bundle.fit n = true := by decide +kernel
theorem gp_TY (sz : Nat) : gk_TY gp_P gp_yn gp_code gp_hh gp_cl gp_LW (gp_J sz) := by
  intro mi pc ci h
  have h : gp_xnw mi pc = some ci := h
  unfold gp_xnw at h
  split at h
  · rename_i q hq
    cases h
    have hm := gp_xf_mem _ _ _ _ hq
    obtain ⟨j, hj⟩ := List.getElem?_of_mem hm
    have h2 := gp_allx gp_okYs j _ hj
    unfold gp_okY at h2
    dsimp only at h2
    split at h2
    · rename_i r hr
      simp only [Bool.and_eq_true, decide_eq_true_eq] at h2
      obtain ⟨⟨⟨⟨⟨⟨⟨⟨⟨⟨⟨g1, g2⟩, g3⟩, g4⟩, g5⟩, g6⟩, g7⟩, g8⟩, g9⟩, g10⟩, g11⟩, g12⟩ := h2
      obtain ⟨C, T, N⟩ := r
      dsimp only at g6 g8 g10 g11 g12
      subst g6
      refine ⟨q.2.1, q.2.2, C, T, gp_nms2, g1, g2, g3, g4, g5, hr, g7, Nat.le_refl _, g8, gp_fitN, gp_is_in g10, gp_is_in g11, gp_is_in g12, fun s hs a ha ar => hs.1 a (List.mem_flatMap.mpr ⟨_, hm, ?_⟩) ar⟩
      have e1 : (gp_yn mi).cls = gp_cn 1 := by show gp_cn (gp_own mi) = _; rw [g9]
      rw [e1] at ha
      dsimp only
      rw [hr]
      exact ha
    · cases h2
  · cases h
theorem gp_hw_ok : gp_is 576 (.classLink "GrammarDeskLaw" 13 "java/lang/IllegalArgumentException") = true ∧ gp_is 577 (.classLink "GrammarDeskLaw" 15 "java/lang/UnsupportedOperationException") = true ∧ gp_is 852 (.classLink "GrammarDeskLaw" 29 "java/lang/IllegalStateException") = true := by decide +kernel
theorem gp_TH (sz : Nat) : gk_TH gp_P gp_yn gp_hh gp_cl gp_LW (gp_J sz) := by
  intro mi pc ci h hh
  have hh : gp_hnd mi pc ci = some h := hh
  unfold gp_hnd at hh
  split at hh
  · rename_i q hq
    have hm := gp_hf_mem _ _ _ _ hq
    cases hb : (Nat.ble q.1 pc && Nat.blt pc q.2.1) with
    | false => rw [hb] at hh; cases hh
    | true =>
      rw [hb] at hh
      cases hh
      simp only [Bool.and_eq_true] at hb
      have k1 : q.1 ≤ pc := Nat.le_of_ble_eq_true hb.1
      have k2 : pc < q.2.1 := Nat.le_of_ble_eq_true hb.2
      have w1 := gp_is_in gp_hw_ok.1
      have w2 := gp_is_in gp_hw_ok.2.1
      have w3 := gp_is_in gp_hw_ok.2.2
      have n0 : ∀ y ∈ ([] : List (Nat × Nat × Nat × Nat)), y.1 ≤ pc ∧ pc < y.2.1 ∧ y.2.2.2 ≠ 0 ∧ ∃ C' : String, Cond.classLink "GrammarDeskLaw" y.2.2.2 C' ∈ gp_LW ∧ ∀ s : State, gp_J sz s → va_Nc "" C' s := fun y hy => by cases hy
      simp only [gp_hs, List.mem_cons, Prod.mk.injEq, List.not_mem_nil, or_false] at hm
      rcases hm with ⟨rfl, rfl, rfl⟩ | ⟨rfl, rfl, rfl⟩ | ⟨rfl, rfl, rfl⟩ | ⟨rfl, rfl, rfl⟩ | ⟨rfl, rfl, rfl⟩ | ⟨rfl, rfl, rfl⟩ | ⟨rfl, rfl, rfl⟩ | ⟨rfl, rfl, rfl⟩
      · exact ⟨_, _, _, [], [(0, 8, 14, 15)], 0, 8, 13, rfl, rfl, k1, k2, by decide, w1, fun y hy => by cases hy⟩
      · refine ⟨_, _, _, [(0, 8, 11, 13)], [], 0, 8, 15, rfl, rfl, k1, k2, by decide, w2, fun y hy => ?_⟩
        cases List.mem_singleton.mp hy
        exact ⟨k1, k2, by decide, _, w1, fun s hs => hs.2.2.1⟩
      · exact ⟨_, _, _, [], [], 0, 8, 15, rfl, rfl, k1, k2, by decide, w2, fun y hy => by cases hy⟩
      · exact ⟨_, _, _, [], [], 0, 8, 15, rfl, rfl, k1, k2, by decide, w2, fun y hy => by cases hy⟩
      · exact ⟨_, _, _, [], [], 0, 8, 15, rfl, rfl, k1, k2, by decide, w2, fun y hy => by cases hy⟩
      · exact ⟨_, _, _, [], [], 0, 8, 29, rfl, rfl, k1, k2, by decide, w3, fun y hy => by cases hy⟩
      · exact ⟨_, _, _, [], [(0, 8, 14, 13)], 0, 8, 29, rfl, rfl, k1, k2, by decide, w3, fun y hy => by cases hy⟩
      · refine ⟨_, _, _, [(0, 8, 11, 29)], [], 0, 8, 13, rfl, rfl, k1, k2, by decide, w1, fun y hy => ?_⟩
        cases List.mem_singleton.mp hy
        exact ⟨k1, k2, by decide, _, w3, fun s hs => hs.2.2.2⟩
  · cases hh
