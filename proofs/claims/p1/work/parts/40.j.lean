/-! part 20: what throws rest on: words of the tables, two statics of Throwable's -/
def gp_nms2 : List String := ["java/lang/RuntimeException", "java/lang/Exception"]
def gp_JL : List Cond := gp_xs.flatMap fun x => Bundle.ownAtoms0 (gp_cn 1) x.2.2.2.2 (match gp_cl[x.2.2.1]? with
  | some r => r.1
  | none => "") gp_nms2
def gp_kd (w : Cond) : Bool := match w with
  | .declares _ => true
  | .castable _ _ => true
  | .laysStatic C _ _ => decide (C = Bundle.tN)
  | .isRef (.static C n d) => decide (C = Bundle.tN) && gp_JL.contains (.laysStatic C n d)
  | w => goodWord w
def gp_Jb (sz : Nat) (s : State) : Prop := ∀ (c : ClassId) (k : Class) (a : Nat), s.vm.findClass Bundle.tN = some c → s.vm.classes[c]? = some k → k.statics = some a → a < sz
def gp_J (sz : Nat) (s : State) : Prop := (∀ w ∈ gp_JL, ∀ ar : Array Value, w.before ar s = true) ∧ gp_Jb sz s ∧ va_Nc "java/lang/UnsupportedOperationException" "java/lang/IllegalArgumentException" s ∧ va_Nc "java/lang/IllegalArgumentException" "java/lang/IllegalStateException" s
theorem gp_Jb_moved {sz : Nat} {s U : State} (hW : s.WarmedH U.vm) (h : gp_Jb sz s) : gp_Jb sz U := by
  intro c k a hc hk ha
  rw [hW.alike.findClass] at hc
  obtain ⟨k0, hk0⟩ := Vm.classAt_of_findClass hc
  obtain ⟨k1, hk1, he⟩ := hW.alike.2.2 _ _ hk0
  cases hk.symm.trans hk1
  rw [he] at ha
  exact h c k0 a hc hk0 ha
set_option maxHeartbeats 1000000 in
theorem gp_kd_warm {sz : Nat} {s U : State} (hW : s.WarmedH U.vm) (hH : ∀ q, q < sz → U.heap[q]? = s.heap[q]?) (hb : gp_Jb sz s) (hall : ∀ w ∈ gp_JL, ∃ ar : Array Value, w.before ar s = true) {w : Cond} (hw : w ∈ gp_JL) (hk : gp_kd w = true) : ∀ ar : Array Value, w.before ar U = true := by
  intro ar
  obtain ⟨ar0, h0⟩ := hall w hw
  have hlay : ∀ {C n d : String} {a0 : Array Value}, C = Bundle.tN → (Cond.laysStatic C n d).before a0 s = true → ∃ (c : ClassId) (k : Class) (i : Nat) (f : Field) (a : Nat) (cell : Cell), U.vm.findClass C = some c ∧ U.fieldFound? C n d = some (c, k, i, f) ∧ f.isStatic = true ∧ k.statics = some a ∧ U.heap[a]? = some cell ∧ cell.vm.isStatics = true ∧ cell.cls = c ∧ f.slot < cell.slots.size ∧ k.staticTypes[f.slot]? = some f.type ∧ s.heap[a]? = some cell ∧ ∃ k0 : Class, s.fieldFound? C n d = some (c, k0, i, f) ∧ k0.statics = some a := by
    intro C n d a0 hC h
    subst hC
    obtain ⟨c, k, i, f, a, cell, hc, hi, hst, ha, hcell, hs, hcls, hlt, hty⟩ := Cond.laysStatic_spec h
    obtain ⟨k', hi', he⟩ := State.fieldFound?_setVm hW.alike hi
    have hlt2 : a < sz := hb c k a hc (State.fieldFound?_spec hi).1 ha
    exact ⟨c, k', i, f, a, cell, by rw [hW.alike.findClass]; exact hc, hi', hst, by rw [he]; exact ha, by rw [hH a hlt2]; exact hcell, hs, hcls, hlt, by rw [he]; exact hty, hcell, k, hi, ha⟩
  unfold gp_kd at hk
  split at hk
  · exact va_Nw.use rfl (va_Nw.warmD hW (va_Nw.of rfl h0))
  · rename_i X Y
    obtain ⟨c, t, h1, h2, h3⟩ := Cond.castable_spec h0
    have g1 : U.vm.findClass X = some c := by rw [hW.alike.findClass]; exact h1
    have g2 : U.vm.findClass Y = some t := by rw [hW.alike.findClass]; exact h2
    have g3 : U.vm.assignable c t = true := by rw [hW.alike.assignable]; exact h3
    simp [Cond.before, Cond.holds, Cond.value, g1, g2, g3]
  · obtain ⟨c, k, i, f, a, cell, g1, g2, g3, g4, g5, g6, g7, g8, g9, -⟩ := hlay (of_decide_eq_true hk) h0
    exact Cond.laysStatic_of g1 g2 g3 g4 g5 g6 g7 g8 g9
  · rename_i C n d
    simp only [Bool.and_eq_true, decide_eq_true_eq, List.contains_iff_mem] at hk
    obtain ⟨ar1, h1⟩ := hall _ hk.2
    obtain ⟨c, k, i, f, a, cell, g1, g2, g3, g4, g5, g6, g7, g8, g9, g10, k0, g11, g12⟩ := hlay hk.1 h1
    have hv : cell.slots[f.slot]? = some cell.slots[f.slot] := Array.getElem?_eq_getElem g8
    have e0 : (Term.static C n d).eval ar0 s none [] s = some cell.slots[f.slot] := by simp [Term.eval, State.fieldNamed?, g11, g3, g12, g10, g6, hv]
    have e1 : (Term.static C n d).eval ar U none [] U = some cell.slots[f.slot] := by simp [Term.eval, State.fieldNamed?, g2, g3, g4, g5, g6, hv]
    simp only [Cond.before, Cond.holds, Cond.value, e0] at h0
    simp only [Cond.before, Cond.holds, Cond.value, e1]
    exact h0
  · exact word_at hW (good_of_word hk) h0
