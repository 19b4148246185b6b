/-! part 11: a throw is what the interpreter says of it -/
def gk_TY (P : gk_Pg) (yn : Nat → MethodName) (code : Nat → ByteArray) (hh : Nat → List (Nat × Nat × Nat × Nat)) (cl : List vw_C) (LW : List Cond) (J : State → Prop) : Prop := ∀ mi pc ci : Nat, gk_xnw P mi pc = some ci → ∃ (idx ic : Nat) (C : String) (T : u_T) (names : List String),
  decode (code mi) pc = .ok (.new idx, 3) ∧ decode (code mi) (pc + 3) = .ok (.dup, 1) ∧ decode (code mi) (pc + 3 + 1) = .ok (.invokespecial ic, 3) ∧ decode (code mi) (pc + 3 + 1 + 3) = .ok (.athrow, 1) ∧ hh mi = [] ∧ cl[ci]? = some (C, T, 0) ∧ gk_nsl P ci = 6 ∧ names.length ≤ 2 ∧ Bundle.fit C = true ∧ (∀ n ∈ names, Bundle.fit n = true) ∧
  Cond.classLink (yn mi).cls idx C ∈ LW ∧ Cond.instantiable C 6 ∈ LW ∧ Cond.initialized C ∈ LW ∧ ∀ s : State, J s → ∀ a ∈ Bundle.ownAtoms0 (yn mi).cls ic C names, ∀ ar : Array Value, a.before ar s = true
section GK14
variable {p : Program} {l : Launch} {e : Env} {D : va_G} {cl : List vw_C} {cA : Nat → ClassId} {b sz : Nat} {P : gk_Pg} {yn : Nat → MethodName} {code : Nat → ByteArray} {hh : Nat → List (Nat × Nat × Nat × Nat)} {LW : List Cond} {J : State → Prop}
set_option maxHeartbeats 2000000 in
theorem gk_thr (hx : p.tables.exec = Jvm.exec) (htr : e.platform.stackTraces = false) (hTY : gk_TY P yn code hh cl LW J) (hLW : ∀ w ∈ LW, gk_stab w) (hJ : ∀ s U : State, J s → s.WarmedH U.vm → (∀ q, q < sz → U.heap[q]? = s.heap[q]?) → J U) : gk_Thr p l e P yn code hh D cl cA b sz LW J := by
  intro mi pc ci st w hxn hcat R s m args below meth c H locs cells slots ls hM hK hJs hI hls hfr hlo hmc hms
  obtain ⟨hb, hml, hrt, hlk, hown, hnm, hex⟩ := hM
  obtain ⟨idx, ic, C, T, names, hd0, hd3, hd4, hd7, hh0, hc, hn6, hnl, hfC, hfN, hcl, hins, hini, hat⟩ := hTY mi pc ci hxn
  rw [hn6] at hms ⊢
  refine gk_W_mid (by omega) (by omega) fun T0 hT0 X0 => ?_
  have hW1 : s.WarmedH (gk_mid s H T0.slotsUsed).vm := State.WarmedH.refl s
  have hK1 : gk_K D cl cA LW (gk_mid s H T0.slotsUsed) := gk_K_warm hLW hW1 hK
  have hJ1 : J (gk_mid s H T0.slotsUsed) := hJ s _ hJs hW1 (fun q hq => hI.2.1.2.1 q (Nat.lt_of_lt_of_le hq hI.2.2.2.2) (fun z => absurd hq (Nat.not_lt.mpr z)))
  have hfc : (gk_mid s H T0.slotsUsed).vm.findClass C = some (D.1 ci) := (hK1.1.1 ci (C, T, 0) hc).2.1
  have hs0 : X0.same.1 = X0.same.1 := rfl
  have hsame0 : s.sameButNew (T0.setVm s.vm) locs cells slots := X0.same
  refine W.newcK (s := gk_mid s H T0.slotsUsed) hx hb hown (hK1.2 _ hcl args) (hK1.2 _ hins args) (hK1.2 _ hini args) rfl hd0 (by show 0 + 1 ≤ R.cells - cells; omega) (by show 0 + 6 ≤ R.slots - slots; omega) hfc rfl fun H' kC hkC e1 z1 o1 => ?_
  refine lv_dup (va := .ref H.size) (rest := gk_vs (gk_ad b sz) st) hx hb hd3 rfl ?_
  intro T2 hT2 X2
  have hcat2 : ((gk_vs (gk_ad b sz) st).map fun v => v.category).sum ≤ 8 := by rw [gk_cat_v]; exact hcat
  have hempty : c.exceptionTable.toList = [] := by
    rw [hh0] at hex
    exact List.map_eq_nil_iff.mp hex
  obtain ⟨U, hst, hrun, hend, hWU, hsame, ce, hce, hoc⟩ := X2.ctorThrow0 hx htr (own := (yn mi).cls) (cls := C) (names := names) (ic := ic) hown hfC hfN (fun a ha => hat _ hJ1 a ha args) (fun x hx' => by cases hx') hfc hkC (by rw [hT2]; exact e1) (Nat.le_refl _)
    (g := F0 m (pc + 3 + 1) ls (.ref H.size :: .ref H.size :: gk_vs (gk_ad b sz) st)) rfl hls rfl rfl (rest := gk_vs (gk_ad b sz) st) rfl (by rw [hb]; exact hd4) (by rw [hb]; exact hd7) (fun x hx' => by rw [hempty] at hx'; cases hx')
    (by show names.length + 3 < R.frames; omega) (by show 2 * 0 + (1 + ((gk_vs (gk_ad b sz) st).map fun v => v.category).sum) + (13 * (names.length + 1) + 41) ≤ R.locals; omega) hlk
  have hold : ∀ q, q < H.size → U.heap[q]? = H[q]? := gk_same_nil hsame
  have hUs : U.heap.size = H.size + 1 := by
    have h1 : U.heap.size ≤ H.size + (0 + 1) := hsame.2.2.1
    have h2 : H.size < U.heap.size := (Array.getElem?_eq_some_iff.mp hce).1
    omega
  have hHs : H.size = sz + w.length := hI.2.2.1
  refine ⟨U, hst, .threw H.size, locs ++ [], hrun, hend, ?_, hWU, ?_, ?_⟩
  · show Outcome.threw H.size = Outcome.threw (gk_ad b sz (w ++ [.inl (ci, [])] : gk_Wd).length)
    rw [List.length_append, List.length_singleton, hHs]
    rfl
  · have h9 := gk_same_mid (k := 0 + 1) (n := 0 + 6) hsame0 (t := U) (by rw [hT0]; exact hsame)
    exact h9
  · refine ⟨?_, ⟨?_, fun q h1 h2 => (hold q (Nat.lt_of_lt_of_le h1 hI.2.1.1)).trans (hI.2.1.2.1 q h1 h2), fun x hx' => ?_⟩, ?_, ?_, hI.2.2.2.2⟩
    · rw [← gk_w_push]
      refine va_P.app (hI.1.kept fun k q hk => hold q.1 ((hI.1 k q hk).lt)) fun k q hk => ?_
      have hz : k < 1 := (List.getElem?_eq_some_iff.mp hk).1
      rw [show k = 0 by omega] at hk
      cases hk
      refine ⟨(C, T, 0), hc, ce, ?_, ?_, hoc.vm, fun k hk => absurd hk (Nat.not_lt_zero _)⟩
      · show U.heap[sz + w.length]? = some ce
        rw [← hHs]; exact hce
      · exact Option.some.inj (hoc.cls.symm.trans hfc)
    · rw [hUs]; exact Nat.le_trans hI.2.1.1 (Nat.le_succ _)
    · rw [List.append_nil] at hx'
      exact hI.2.1.2.2 x hx'
    · rw [hUs, hHs, List.length_append, List.length_singleton]; omega
    · have := hI.2.2.2.1
      rw [List.length_append, List.length_singleton]; omega
end GK14
