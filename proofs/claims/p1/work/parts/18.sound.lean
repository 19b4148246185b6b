/-! part 9: the interpreter is right (throws and handlers as two premises, gk_Thr and gk_Cat) -/
def gk_TK (P : gk_Pg) (yn : Nat → MethodName) (code : Nat → ByteArray) (hh : Nat → List (Nat × Nat × Nat × Nat)) (cl : List vw_C) (LW : List Cond) : Prop := ∀ mi idx kind mj na ci : Nat, gk_mth P mi idx = some (kind, mj, na, ci) → kind < 3 →
  gk_Cw LW (yn mj) (code mj) (gk_inf P mj).1 (gk_inf P mj).2 (hh mj) ∧ Cond.initialized (yn mj).cls ∈ LW ∧ ((yn mj).cls ≠ "java/lang/invoke/MethodHandle" ∧ (yn mj).cls ≠ "java/lang/invoke/VarHandle") ∧ plainFor (yn mj) = true ∧ (gk_inf P mj).1 ≤ 21 ∧
  (parseMethodDescriptor (yn mj).desc).map (fun d => d.parameters.length) = some na ∧ (Cond.methodLink (yn mi).cls idx (yn mj) ∈ LW ∨ ∃ host, Cond.methodLinkNest (yn mi).cls idx (yn mj) host ∈ LW) ∧ (kind = 0 → Cond.static (yn mj) ∈ LW) ∧
  (kind = 1 → Cond.instanceMethod (yn mj) ∈ LW ∧ ∃ (C : String) (T : u_T) (N : Nat), cl[ci]? = some (C, T, N) ∧ Cond.selects C (yn mj) (yn mj) ∈ LW) ∧ (kind = 2 → (yn mj).name = "<init>" ∧ Cond.instanceMethod (yn mj) ∈ LW ∧ Cond.code (yn mj) (code mj) (gk_inf P mj).1 none ∈ LW)
def gk_TD (P : gk_Pg) (code : Nat → ByteArray) : Prop := ∀ (mi pc : Nat) (i : Instr), gk_dec P mi pc = some i → ∃ len : Nat, decode (code mi) pc = .ok (i, len) ∧ (gk_len i = 0 ∨ len = gk_len i)
theorem gk_vs_app (ad : Nat → Nat) (a b : List Value) : gk_vs ad (a ++ b) = gk_vs ad a ++ gk_vs ad b := List.map_append
theorem gk_vs_rev (ad : Nat → Nat) (a : List Value) : (gk_vs ad a.reverse).reverse = gk_vs ad a := by
  unfold gk_vs
  rw [List.map_reverse, List.reverse_reverse]
theorem gk_vs_cut (ad : Nat → Nat) (st : List Value) (n : Nat) : gk_vs ad st = (gk_vs ad (st.take n).reverse).reverse ++ gk_vs ad (st.drop n) := by
  rw [gk_vs_rev, ← gk_vs_app, List.take_append_drop]
theorem gk_vs_len (ad : Nat → Nat) (st : List Value) : (gk_vs ad st).length = st.length := List.length_map ..
theorem gk_call_inv {P : gk_Pg} {mi : Nat} {w : gk_Wd} {st : List Value} {i : Instr} {mj : Nat} {as r : List Value} (h : gk_call P mi w st i = some (mj, as, r)) : ∃ idx na ci : Nat,
    (i = .invokestatic idx ∧ gk_mth P mi idx = some (0, mj, na, ci) ∧ na ≤ st.length ∧ gk_cat r ≤ 8 ∧ as = (st.take na).reverse ∧ r = st.drop na) ∨
    (i = .invokevirtual idx ∧ gk_mth P mi idx = some (1, mj, na, ci) ∧ gk_cat r ≤ 8 ∧ ∃ (a : Nat) (fs : List Value), st.drop na = .ref (a + 1) :: r ∧ w[a]? = some (.inl (ci, fs)) ∧ as = .ref (a + 1) :: (st.take na).reverse) ∨
    (i = .invokespecial idx ∧ gk_mth P mi idx = some (2, mj, na, ci) ∧ gk_cat r ≤ 8 ∧ ∃ a : Nat, st.drop na = .ref a :: r ∧ as = .ref a :: (st.take na).reverse) := by
  unfold gk_call at h
  split at h
  · rename_i k
    split at h
    · rename_i mj' na ci hm
      split at h
      · rename_i hc
        cases h
        exact ⟨k, na, ci, Or.inl ⟨rfl, hm, hc.1, hc.2, rfl, rfl⟩⟩
      · cases h
    · cases h
  · rename_i k
    split at h
    · rename_i mj' na ci hm
      split at h
      · rename_i a r' hdrop
        split at h
        · rename_i cj fs hw
          split at h
          · rename_i hc
            obtain ⟨rfl, hc⟩ := hc
            cases h
            exact ⟨k, na, _, Or.inr (Or.inl ⟨rfl, hm, hc, a, fs, hdrop, hw, rfl⟩)⟩
          · cases h
        · cases h
      · cases h
    · cases h
  · rename_i k
    split at h
    · rename_i mj' na ci hm
      split at h
      · rename_i a r' hdrop
        split at h
        · rename_i hc
          cases h
          exact ⟨k, na, ci, Or.inr (Or.inr ⟨rfl, hm, hc, a, hdrop, rfl⟩)⟩
        · cases h
      · cases h
    · cases h
  · cases h
theorem gk_drop_len {st : List Value} {na : Nat} {x : Value} {r : List Value} (h : st.drop na = x :: r) : (st.take na).length = na := by
  have h1 := congrArg List.length h
  rw [List.length_drop, List.length_cons] at h1
  rw [List.length_take]
  omega
section GK10
variable {p : Program} {l : Launch} {e : Env} {R : Room} {s : State} {m : MethodId} {args : Array Value} {below : List Frame} {meth : Method} {c : Code} {T : State} {locs : List Loc} {cells slots : Nat}
variable {D : va_G} {cl : List vw_C} {cA : Nat → ClassId} {b sz : Nat} {w : gk_Wd} {P : gk_Pg} {yn : Nat → MethodName} {code : Nat → ByteArray} {hh : Nat → List (Nat × Nat × Nat × Nat)} {LW : List Cond} {mi pc : Nat} {ls : Array Slot}
set_option maxHeartbeats 1000000 in
theorem gk_inv (hTK : gk_TK P yn code hh cl LW) (X : Stand p l e R s m args below meth c T locs cells slots) (hx : p.tables.exec = Jvm.exec) (hK : gk_K D cl cA LW s) (hown : s.vm.findClass (yn mi).cls = some m.cls) (hI : gk_I D cl cA b sz s w T.heap locs cells) {i : Instr} {len : Nat} (hd : decode c.code pc = .ok (i, len)) (hlen : gk_len i = 0 ∨ len = gk_len i)
    {st as r : List Value} {mj : Nat} (h : gk_call P mi w st i = some (mj, as, r)) :
    len = 3 ∧ gk_cat r ≤ 8 ∧ gk_Cw LW (yn mj) (code mj) (gk_inf P mj).1 (gk_inf P mj).2 (hh mj) ∧ plainFor (yn mj) = true ∧ (gk_inf P mj).1 ≤ 21 ∧ ∃ (vm₁ : Vm) (mk : MethodId), s.methodNamed? (yn mj) = some mk ∧ Stand p l e R s m args below meth c (T.setVm vm₁) locs cells slots ∧
      ∀ target, (∀ acts, Steps p.tables e below (doInvoke e ((T.setVm vm₁).setTop (F0 m pc ls (gk_vs (gk_ad b sz) r))) acts mk (gk_vs (gk_ad b sz) as).toArray).1 target) → Steps p.tables e below (T.setTop (F0 m pc ls (gk_vs (gk_ad b sz) st))) target := by
  obtain ⟨idx, na, ci, ⟨rfl, hm, hna, hcat, rfl, rfl⟩ | ⟨rfl, hm, hcat, a, fs, hdrop, hw, rfl⟩ | ⟨rfl, hm, hcat, a, hdrop, rfl⟩⟩ := gk_call_inv h
  · obtain rfl : len = 3 := by simpa [gk_len] using hlen
    obtain ⟨hCw, hini, hmh, hpl, h40, hpar, hlink, hst, -, -⟩ := hTK mi idx 0 mj na ci hm (by decide)
    obtain ⟨mk, methM, cM, hn, hmk, -, -, -, -, -, -, hsig⟩ := gk_code_at hK.2 hCw
    have hlenA : (gk_vs (gk_ad b sz) (st.take na).reverse).length = methM.sig.parameters.length := by
      rw [hsig] at hpar
      rw [gk_vs_len, List.length_reverse, List.length_take, Nat.min_eq_left hna]
      exact (Option.some.inj hpar).symm
    have hstatic : methM.isStatic = true := Cond.static_spec hn hmk (hK.2 _ (hst rfl) args)
    obtain ⟨kP, hkP, -⟩ := className_of_methodNamed hn
    have hinitP : kP.init = .initialized := Cond.initialized_spec (findClass_of_methodNamed hn) hkP (hK.2 _ hini args)
    refine ⟨rfl, hcat, hCw, hpl, h40, ?_⟩
    rcases hlink with hl | ⟨host, hl⟩
    · obtain ⟨vm₁, X₁, hstep⟩ := X.invokestatic hx hown (hK.2 _ hl args) hn hmk hstatic hkP hinitP hmh (g := F0 m pc ls (gk_vs (gk_ad b sz) st)) rfl (argsL := gk_vs (gk_ad b sz) (st.take na).reverse) (rest := gk_vs (gk_ad b sz) (st.drop na)) hlenA (gk_vs_cut _ st na) hd
      exact ⟨vm₁, mk, hn, X₁, hstep⟩
    · obtain ⟨vm₁, X₁, hstep⟩ := X.invokestaticNest hx hown (hK.2 _ hl args) hn hmk hstatic hkP hinitP hmh (g := F0 m pc ls (gk_vs (gk_ad b sz) st)) rfl (argsL := gk_vs (gk_ad b sz) (st.take na).reverse) (rest := gk_vs (gk_ad b sz) (st.drop na)) hlenA (gk_vs_cut _ st na) hd
      exact ⟨vm₁, mk, hn, X₁, hstep⟩
  · obtain rfl : len = 3 := by simpa [gk_len] using hlen
    obtain ⟨hCw, hini, hmh, hpl, h40, hpar, hlink, -, hv, -⟩ := hTK mi idx 1 mj na ci hm (by decide)
    obtain ⟨hinst, C, Tt, N, hc, hsel⟩ := hv rfl
    obtain ⟨mk, methM, cM, hn, hmk, -, -, -, -, -, -, hsig⟩ := gk_code_at hK.2 hCw
    obtain ⟨mk2, methM2, hn2, hmk2, hstM, habM⟩ := Cond.instanceMethod_spec (hK.2 _ hinst args)
    cases hn.symm.trans hn2
    cases hmk.symm.trans hmk2
    have hlenA : (gk_vs (gk_ad b sz) (st.take na).reverse).length = methM.sig.parameters.length := by
      rw [hsig] at hpar
      rw [gk_vs_len, List.length_reverse, gk_drop_len hdrop]
      exact (Option.some.inj hpar).symm
    obtain ⟨cellB, hcB, hoB, hclB⟩ := va_recv hK.1 hI.1 hc (gk_w_at hw)
    obtain ⟨c2, r2, m2, q1, q2, q3, q4, kP, hkP, hkPi⟩ := Cond.selects_spec (hK.2 _ hsel args)
    cases hclB.symm.trans q1
    cases (State.methodFound?_of_named hn hmh).symm.trans q2
    cases hn.symm.trans q3
    have hselP : selectMethod e.platform s.vm cellB.cls mk = .method mk := by rw [Launch.admits_selectMethod X.admits]; exact q4
    have hstk : gk_vs (gk_ad b sz) st = (gk_vs (gk_ad b sz) (st.take na).reverse).reverse ++ .ref (sz + a) :: gk_vs (gk_ad b sz) r := by
      rw [gk_vs_cut (gk_ad b sz) st na, hdrop]; rfl
    refine ⟨rfl, hcat, hCw, hpl, h40, ?_⟩
    rcases hlink with hl | ⟨host, hl⟩
    · obtain ⟨vm₁, X₁, hstep⟩ := X.invokevirtual hx hown (hK.2 _ hl args) hn hmk hstM hkP hkPi hmh (a := sz + a) (cell := cellB) hcB (fun z hz => by rw [hz] at hoB; cases hoB) hselP hmk habM hkP hkPi (g := F0 m pc ls (gk_vs (gk_ad b sz) st)) rfl (argsL := gk_vs (gk_ad b sz) (st.take na).reverse) (rest := gk_vs (gk_ad b sz) r) hlenA hstk hd
      exact ⟨vm₁, mk, hn, X₁, hstep⟩
    · obtain ⟨vm₁, X₁, hstep⟩ := X.invokevirtualNest hx hown (hK.2 _ hl args) hn hmk hstM hkP hkPi hmh (a := sz + a) (cell := cellB) hcB (fun z hz => by rw [hz] at hoB; cases hoB) hselP hmk habM hkP hkPi (g := F0 m pc ls (gk_vs (gk_ad b sz) st)) rfl (argsL := gk_vs (gk_ad b sz) (st.take na).reverse) (rest := gk_vs (gk_ad b sz) r) hlenA hstk hd
      exact ⟨vm₁, mk, hn, X₁, hstep⟩
  · obtain rfl : len = 3 := by simpa [gk_len] using hlen
    obtain ⟨hCw, hini, hmh, hpl, h40, hpar, hlink, -, -, hi⟩ := hTK mi idx 2 mj na ci hm (by decide)
    obtain ⟨hnm, hinst, hcode⟩ := hi rfl
    have hlenA : ∀ sig, parseMethodDescriptor (yn mj).desc = some sig → (gk_vs (gk_ad b sz) (st.take na).reverse).length = sig.parameters.length := by
      intro sig hsig
      rw [hsig] at hpar
      rw [gk_vs_len, List.length_reverse, gk_drop_len hdrop]
      exact (Option.some.inj hpar).symm
    have hstk : gk_vs (gk_ad b sz) st = (gk_vs (gk_ad b sz) (st.take na).reverse).reverse ++ .ref (gk_ad b sz a) :: gk_vs (gk_ad b sz) r := by
      rw [gk_vs_cut (gk_ad b sz) st na, hdrop]; rfl
    have hmg : e.platform.magicAccessors = ({} : Platform).magicAccessors := by rw [X.admits.platform]
    refine ⟨rfl, hcat, hCw, hpl, h40, ?_⟩
    rcases hlink with hl | ⟨host, hl⟩
    · obtain ⟨mk, methM, cM, kP, vm₁, hn, -, -, -, -, -, -, -, hW₁, hstep⟩ := Steps.initColdArgs (e := e) X.here hx X.warmed hmg hown hnm hmh (hK.2 _ hl args) (hK.2 _ hinst args) (hK.2 _ hcode args) (f := F0 m pc ls (gk_vs (gk_ad b sz) st)) rfl hlenA hstk hd
      exact ⟨vm₁, mk, hn, X.noted hW₁, hstep⟩
    · obtain ⟨mk, methM, cM, kP, vm₁, hn, -, -, -, -, -, -, -, hW₁, hstep⟩ := Steps.initColdArgsNest (e := e) X.here hx X.warmed hmg hown hnm hmh (hK.2 _ hl args) (hK.2 _ hinst args) (hK.2 _ hcode args) (f := F0 m pc ls (gk_vs (gk_ad b sz) st)) rfl hlenA hstk hd
      exact ⟨vm₁, mk, hn, X.noted hW₁, hstep⟩
end GK10
/-- a throw: the world's new last cell is what was thrown -/
def gk_Thr (p : Program) (l : Launch) (e : Env) (P : gk_Pg) (yn : Nat → MethodName) (code : Nat → ByteArray) (hh : Nat → List (Nat × Nat × Nat × Nat)) (D : va_G) (cl : List vw_C) (cA : Nat → ClassId) (b sz : Nat) (LW : List Cond) (J : State → Prop) : Prop :=
  ∀ (mi pc ci : Nat) (st : List Value) (w : gk_Wd), gk_xnw P mi pc = some ci → gk_cat st ≤ 8 → ∀ (R : Room) (s : State) (m : MethodId) (args : Array Value) (below : List Frame) (meth : Method) (c : Code) (H : Heap) (locs : List Loc) (cells slots : Nat) (ls : Array Slot),
    gk_M P yn code hh mi s m meth c → gk_K D cl cA LW s → J s → gk_I D cl cA b sz s w H locs cells → ls.size = c.maxLocals → 6 ≤ R.frames → 140 ≤ R.locals → cells + 1 ≤ R.cells → slots + gk_nsl P ci ≤ R.slots →
    W p l e R s m args below meth c H locs cells slots (gk_Q D cl cA b sz below s (.inr ci, w ++ [.inl (ci, [])]) (cells + 1) (slots + gk_nsl P ci)) (F0 m pc ls (gk_vs (gk_ad b sz) st))
/-- a handler: the walk goes on there -/
def gk_Cat (p : Program) (l : Launch) (e : Env) (P : gk_Pg) (yn : Nat → MethodName) (code : Nat → ByteArray) (hh : Nat → List (Nat × Nat × Nat × Nat)) (D : va_G) (cl : List vw_C) (cA : Nat → ClassId) (b sz : Nat) (LW : List Cond) (J : State → Prop) : Prop :=
  ∀ (mi pc ci h : Nat) (w : gk_Wd), gk_hnd P mi pc ci = some h → ∀ (R : Room) (s : State) (m : MethodId) (args : Array Value) (below : List Frame) (meth : Method) (c : Code) (T : State) (locs : List Loc) (cells slots : Nat) (ls : Array Slot) (rest : List Value),
    gk_M P yn code hh mi s m meth c → gk_K D cl cA LW s → J s → Stand p l e R s m args below meth c T locs cells slots → gk_I D cl cA b sz s w T.heap locs cells → (∃ fs, w[w.length - 1]? = some (.inl (ci, fs))) →
    ∃ vm₁ : Vm, Stand p l e R s m args below meth c (T.setVm vm₁) locs cells slots ∧ ∀ target, Steps p.tables e below ((T.setVm vm₁).setTop (F0 m h ls [.ref (gk_ad b sz w.length)])) target → Steps p.tables e below ((T.setTop (F0 m pc ls rest)).pushFrame (.throwing (gk_ad b sz w.length))) target
/-- what was thrown is the world's last cell -/
theorem gk_run_thrown {P : gk_Pg} : ∀ (n : Nat) (scr : Option (List Int32)) (d mi pc : Nat) (l : gk_Lc) (st : List Value) (w : gk_Wd) (ci : Nat) (w1 : gk_Wd), gk_run P n scr d mi pc l st w = some (.inr ci, w1) → ∃ fs, w1[w1.length - 1]? = some (.inl (ci, fs))
  | 0, scr, d, mi, pc, l, st, w, ci, w1, h => by simp [gk_run] at h
  | n + 1, scr, d, mi, pc, l, st, w, ci, w1, h => by
    obtain ⟨i, -, h | h | h | h | h⟩ := gk_run_inv h
    · obtain ⟨x, -, h⟩ := h
      exact gk_run_thrown n _ _ _ _ _ _ _ _ _ h
    · obtain ⟨cj, -, -, hq⟩ := h
      cases hq
      exact ⟨[], by simp⟩
    · obtain ⟨x, -, h⟩ := h
      exact gk_run_thrown n _ _ _ _ _ _ _ _ _ h
    · obtain ⟨r, -, hq⟩ := h
      cases hq
    · obtain ⟨d', mj, as, r, -, -, -, ⟨v, w2, -, h⟩ | ⟨cj, hp, w2, -, -, h⟩⟩ := h
      · exact gk_run_thrown n _ _ _ _ _ _ _ _ _ h
      · exact gk_run_thrown n _ _ _ _ _ _ _ _ _ h
section GK11
variable {p : Program} {l : Launch} {e : Env} {D : va_G} {cl : List vw_C} {cA : Nat → ClassId} {b sz : Nat} {P : gk_Pg} {yn : Nat → MethodName} {code : Nat → ByteArray} {hh : Nat → List (Nat × Nat × Nat × Nat)} {LW : List Cond} {J : State → Prop}
theorem gk_pure_len {pc : Nat} {lc : gk_Lc} {st : List Value} {i : Instr} {x : gk_Pt} (h : gk_pure pc lc st i = some x) : x.2.1.length = lc.length := by
  cases i with
  | iload k => obtain ⟨_, -, rfl⟩ := gk_ldi_inv h; rfl
  | iload_n k => obtain ⟨_, -, rfl⟩ := gk_ldi_inv h; rfl
  | lload k => obtain ⟨_, -, rfl⟩ := gk_ldl_inv h; rfl
  | lload_n k => obtain ⟨_, -, rfl⟩ := gk_ldl_inv h; rfl
  | aload k => rcases gk_lda_inv h with ⟨_, -, rfl⟩ | ⟨-, rfl⟩ <;> rfl
  | aload_n k => rcases gk_lda_inv h with ⟨_, -, rfl⟩ | ⟨-, rfl⟩ <;> rfl
  | istore k => obtain ⟨_, _, -, -, rfl⟩ := gk_sti_inv h; exact gk_st1_len _ _ _
  | istore_n k => obtain ⟨_, _, -, -, rfl⟩ := gk_sti_inv h; exact gk_st1_len _ _ _
  | lstore k => obtain ⟨_, _, -, -, rfl⟩ := gk_stl_inv h; exact gk_st2_len _ _ _
  | lstore_n k => obtain ⟨_, _, -, -, rfl⟩ := gk_stl_inv h; exact gk_st2_len _ _ _
  | astore k => obtain ⟨-, ⟨_, _, -, rfl⟩ | ⟨_, -, rfl⟩⟩ := gk_sta_inv h <;> exact gk_st1_len _ _ _
  | astore_n k => obtain ⟨-, ⟨_, _, -, rfl⟩ | ⟨_, -, rfl⟩⟩ := gk_sta_inv h <;> exact gk_st1_len _ _ _
  | iinc k n => obtain ⟨_, -, rfl⟩ := gk_inc_inv h; exact gk_st1_len _ _ _
  | iadd => obtain ⟨_, _, _, -, rfl⟩ := gk_ii_inv h; rfl
  | isub => obtain ⟨_, _, _, -, rfl⟩ := gk_ii_inv h; rfl
  | imul => obtain ⟨_, _, _, -, rfl⟩ := gk_ii_inv h; rfl
  | iand => obtain ⟨_, _, _, -, rfl⟩ := gk_ii_inv h; rfl
  | ior => obtain ⟨_, _, _, -, rfl⟩ := gk_ii_inv h; rfl
  | ixor => obtain ⟨_, _, _, -, rfl⟩ := gk_ii_inv h; rfl
  | ishl => obtain ⟨_, _, _, -, rfl⟩ := gk_ii_inv h; rfl
  | ishr => obtain ⟨_, _, _, -, rfl⟩ := gk_ii_inv h; rfl
  | idiv => obtain ⟨_, _, _, -, -, rfl⟩ := gk_iz_inv h; rfl
  | irem => obtain ⟨_, _, _, -, -, rfl⟩ := gk_iz_inv h; rfl
  | ladd => obtain ⟨_, _, _, -, rfl⟩ := gk_ll_inv h; rfl
  | lsub => obtain ⟨_, _, _, -, rfl⟩ := gk_ll_inv h; rfl
  | lmul => obtain ⟨_, _, _, -, rfl⟩ := gk_ll_inv h; rfl
  | lshl => obtain ⟨_, _, _, -, rfl⟩ := gk_li_inv h; rfl
  | lshr => obtain ⟨_, _, _, -, rfl⟩ := gk_li_inv h; rfl
  | i2l => obtain ⟨_, _, -, rfl⟩ := gk_ui_inv h; rfl
  | i2c => obtain ⟨_, _, -, rfl⟩ := gk_ui_inv h; rfl
  | l2i => obtain ⟨_, _, -, rfl⟩ := gk_ul_inv h; rfl
  | lcmp => obtain ⟨_, _, _, -, rfl⟩ := gk_lc_inv h; rfl
  | dup => obtain ⟨_, _, -, -, rfl⟩ := gk_dup_inv h; rfl
  | pop => obtain ⟨_, _, -, -, rfl⟩ := gk_pop_inv h; rfl
  | dup2 => obtain ⟨_, _, _, -, -, -, rfl⟩ := gk_dup2_inv h; rfl
  | ifCond cd off => obtain ⟨_, _, _, -, -, rfl⟩ := gk_if_inv h; rfl
  | if_icmp cd off => obtain ⟨_, _, _, _, -, -, rfl⟩ := gk_ic_inv h; rfl
  | goto off => obtain ⟨_, -, rfl⟩ := gk_to_inv h; rfl
  | tableswitch d lo hi offs => obtain ⟨_, _, _, -, rfl, -⟩ := gk_sw_inv h; rfl
  | iconst n => cases h; rfl
  | bipush n => cases h; rfl
  | sipush n => cases h; rfl
  | lconst n => cases h; rfl
  | _ => cases h
set_option maxHeartbeats 2000000 in
theorem gk_sound (hx : p.tables.exec = Jvm.exec) (hT : gk_TT P yn cl LW) (hTK : gk_TK P yn code hh cl LW) (hTD : gk_TD P code) (hLW : ∀ w ∈ LW, gk_stab w) (hJ : ∀ s U : State, J s → s.WarmedH U.vm → (∀ q, q < sz → U.heap[q]? = s.heap[q]?) → J U) (hbz : b < sz)
    (hThr : gk_Thr p l e P yn code hh D cl cA b sz LW J) (hCat : gk_Cat p l e P yn code hh D cl cA b sz LW J) : ∀ n, gk_Snd p l e P yn code hh D cl cA b sz LW J n := by
  intro n
  induction n with
  | zero =>
    intro scr d mi pc lc st w q h
    simp [gk_run] at h
  | succ n ih =>
    intro scr d mi pc lc st w q h R s m args below meth c H locs cells slots mc ms ls hM hK hX hJs hI hL hLn hfr hlo hmc hms ec es
    have hmono := gk_run_mono _ _ _ _ _ _ _ _ _ h
    obtain ⟨hb, hml, hrt, hlk, hown, hnm, hex⟩ := id hM
    have hls : c.maxLocals = ls.size := by rw [hml, hL.1, hLn]
    obtain ⟨i, hi, h1 | h1 | h1 | h1 | h1⟩ := gk_run_inv h
    · obtain ⟨x, hp, h2⟩ := h1
      obtain ⟨len, hd, hlen⟩ := hTD mi pc i hi
      exact gk_pure_ok hx hb hd hlen hL hp (fun ls' hL' => ih scr d mi x.1 x.2.1 x.2.2 w q h2 R s m args below meth c H locs cells slots mc ms ls' hM hK hX hJs hI hL' ((gk_pure_len hp).trans hLn) hfr hlo hmc hms ec es)
    · obtain ⟨ci, hxn, ⟨hcat, hd5⟩, rfl⟩ := h1
      have e1 : mc = cells + 1 := by
        have : (w ++ [.inl (ci, [])] : gk_Wd).length = w.length + 1 := by simp
        dsimp only at ec
        omega
      have e2 : ms = slots + gk_nsl P ci := by
        have : gk_sl (gk_nsl P) (w ++ [.inl (ci, [])]) = gk_sl (gk_nsl P) w + gk_nsl P ci := by rw [gk_sl_push]; rfl
        dsimp only at es
        omega
      subst e1; subst e2
      exact hThr mi pc ci st w hxn hcat R s m args below meth c H locs cells slots ls hM hK hJs hI hls.symm (by omega) (by omega) hmc hms
    · obtain ⟨x, hp, h2⟩ := h1
      obtain ⟨len, hd, hlen⟩ := hTD mi pc i hi
      have hmono2 := gk_run_mono _ _ _ _ _ _ _ _ _ h2
      refine gk_heap_ok hT hx hb hls hK hown hnm hX hbz hI (by omega) (by omega) hd hlen hp (by omega) (by omega) fun H1 locs1 cells1 slots1 a1 a2 hI1 => ?_
      exact ih scr d mi (pc + gk_len i) lc x.1 x.2 q h2 R s m args below meth c H1 locs1 cells1 slots1 mc ms ls hM hK hX hJs hI1 hL hLn hfr hlo hmc hms (by omega) (by omega)
    · obtain ⟨r, hp, rfl⟩ := h1
      obtain ⟨len, hd, hlen⟩ := hTD mi pc i hi
      have e1 : mc = cells := by dsimp only at ec; omega
      have e2 : ms = slots := by dsimp only at es; omega
      subst e1; subst e2
      exact gk_ret_ok hx hb hrt hlk hI hd hlen hp
    · obtain ⟨d', mj, as, r, rfl, hcall, hfit, hrun⟩ := h1
      obtain ⟨len, hd, hlen⟩ := hTD mi pc i hi
      intro T hTh X
      subst hTh
      obtain ⟨rfl, hcat, hCw, hpl, h40, vm₁, mk, hn, X₁, hstep⟩ := gk_inv (ls := ls) hTK X hx hK hown hI (by rw [hb]; exact hd) hlen hcall
      have hcat2 : 2 * (F0 m pc ls (gk_vs (gk_ad b sz) r)).monitorRoom + ((F0 m pc ls (gk_vs (gk_ad b sz) r)).stack.map fun v => v.category).sum ≤ 8 := by
        show 2 * 0 + ((gk_vs (gk_ad b sz) r).map fun v => v.category).sum ≤ 8
        rw [gk_cat_v]; omega
      rcases hrun with ⟨v, w1, hr1, hr2⟩ | ⟨ci, hp, w1, hr1, hhn, hr2⟩
      · have hm2 := gk_run_mono _ _ _ _ _ _ _ _ _ hr2
        obtain ⟨t, T', L, k, n', hst, X', hI', hk, hn', ht⟩ := gk_go ih hLW hJ X₁ hK hJs hI (g := F0 m pc ls (gk_vs (gk_ad b sz) r)) rfl hls.symm (by rw [hb]; exact hd) hcat2 hCw hpl h40 hn hfit hr1 (by omega) (by omega) (by dsimp only; omega) (by dsimp only; omega)
        have ht' : t = T'.setTop (F0 m (pc + 3) ls (gk_vs (gk_ad b sz) (v.toList ++ r))) := by
          rw [gk_vs_app]
          cases v <;> exact ht
        dsimp only at hk hn' hI'
        obtain ⟨t2, a1, a2⟩ := ih scr (d' + 1) mi (pc + 3) lc (v.toList ++ r) w1 q hr2 R s m args below meth c T'.heap (locs ++ L) (cells + k) (slots + n') mc ms ls hM hK hX hJs hI' hL hLn hfr hlo hmc hms (by omega) (by omega) T' rfl X'
        refine ⟨t2, hstep t2 (fun acts => (hst acts).trans ?_), a2⟩
        rw [ht']; exact a1
      · have hm2 := gk_run_mono _ _ _ _ _ _ _ _ _ hr2
        obtain ⟨t, T', L, k, n', hst, X', hI', hk, hn', ht⟩ := gk_go ih hLW hJ X₁ hK hJs hI (g := F0 m pc ls (gk_vs (gk_ad b sz) r)) rfl hls.symm (by rw [hb]; exact hd) hcat2 hCw hpl h40 hn hfit hr1 (by omega) (by omega) (by dsimp only; omega) (by dsimp only; omega)
        dsimp only at hk hn' hI' ht
        obtain ⟨vm₂, X₂, hgo⟩ := hCat mi pc ci hp w1 hhn R s m args below meth c T' (locs ++ L) (cells + k) (slots + n') ls (gk_vs (gk_ad b sz) r) hM hK hJs X' hI' (gk_run_thrown _ _ _ _ _ _ _ _ _ _ hr1)
        obtain ⟨t2, a1, a2⟩ := ih scr (d' + 1) mi hp lc [.ref w1.length] w1 q hr2 R s m args below meth c T'.heap (locs ++ L) (cells + k) (slots + n') mc ms ls hM hK hX hJs hI' hL hLn hfr hlo hmc hms (by omega) (by omega) (T'.setVm vm₂) rfl X₂
        refine ⟨t2, hstep t2 (fun acts => (hst acts).trans ?_), a2⟩
        rw [ht]; exact hgo t2 a1
end GK11
