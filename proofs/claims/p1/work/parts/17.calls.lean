/-! part 8: returns, and a call of a method that the interpreter runs -/
def gk_Cw (LW : List Cond) (y : MethodName) (bytes : ByteArray) (maxL : Nat) (ret : Option FieldType) (hh : List (Nat × Nat × Nat × Nat)) : Prop := (hh = [] ∧ Cond.code y bytes maxL ret ∈ LW) ∨ Cond.codeWith y bytes maxL ret hh ∈ LW
theorem gk_code_at {LW : List Cond} {s : State} (hw : ∀ w ∈ LW, ∀ a : Array Value, w.before a s = true) {y : MethodName} {bytes : ByteArray} {maxL : Nat} {ret : Option FieldType} {hh : List (Nat × Nat × Nat × Nat)} (h : gk_Cw LW y bytes maxL ret hh) :
    ∃ (mk : MethodId) (methM : Method) (cM : Code), s.methodNamed? y = some mk ∧ s.vm.method? mk = some methM ∧ methM.code = some cM ∧ cM.code = bytes ∧ cM.maxLocals = maxL ∧ methM.sig.returnType = ret ∧ methM.locks = false ∧ cM.exceptionTable.toList.map (fun h => (h.startPc, h.endPc, h.handlerPc, h.catchType)) = hh ∧ parseMethodDescriptor y.desc = some methM.sig := by
  rcases h with ⟨rfl, h⟩ | h
  · have hc := hw _ h #[]
    obtain ⟨mk, hn⟩ := Cond.code_named hc
    obtain ⟨meth, c, h1, h2, h3, h4, h5, h6, h7, h8⟩ := Cond.code_spec hn hc
    refine ⟨mk, meth, c, hn, h1, h2, h3, h4, h5, h6, ?_, h8⟩
    have h0 : c.exceptionTable.size = 0 := by simpa [Array.isEmpty] using h7
    have h9 : c.exceptionTable.toList = [] := List.eq_nil_of_length_eq_zero (by simpa using h0)
    rw [h9]; rfl
  · obtain ⟨mk, meth, c, h0, h1, h2, h3, h4, h5, h6, h7, h8⟩ := Cond.codeWith_spec (hw _ h #[])
    exact ⟨mk, meth, c, h0, h1, h2, h3, h4, h6, h7, h5, h8⟩
/-- a word that stays true under warmer tables -/
def gk_stab (w : Cond) : Prop := (w.onTables && w.keeps) = true ∨ (∃ ty, w = .arrayClass ty) ∨ (∃ a i x n d h, w = .fieldLinkNest a i x n d h) ∨ ∃ a i x h, w = .methodLinkNest a i x h
theorem gk_stab_warm {w : Cond} {s U : State} (hs : gk_stab w) (hW : s.WarmedH U.vm) (h : ∀ a : Array Value, w.before a s = true) : ∀ a : Array Value, w.before a U = true := by
  intro a
  rcases hs with h1 | ⟨ty, rfl⟩ | ⟨x1, x2, x3, x4, x5, x6, rfl⟩ | ⟨x1, x2, x3, x4, rfl⟩
  · exact word_at hW (Or.inl h1) (h #[])
  · exact word_at hW (Or.inr ⟨ty, rfl⟩) (h #[])
  · exact va_Nw.use rfl (va_Nw.warmF hW (h #[]))
  · exact va_Nw.use rfl (va_Nw.warmM hW (h #[]))
theorem gk_K_warm {D : va_G} {cl : List vw_C} {cA : Nat → ClassId} {LW : List Cond} {s U : State} (hL : ∀ w ∈ LW, gk_stab w) (hW : s.WarmedH U.vm) (h : gk_K D cl cA LW s) : gk_K D cl cA LW U :=
  ⟨va_K.moved hW.alike h.1, fun w hw => gk_stab_warm (hL w hw) hW (h.2 w hw)⟩
/-- which method a walk is in -/
def gk_M (P : gk_Pg) (yn : Nat → MethodName) (code : Nat → ByteArray) (hh : Nat → List (Nat × Nat × Nat × Nat)) (mi : Nat) (s : State) (m : MethodId) (meth : Method) (c : Code) : Prop :=
  c.code = code mi ∧ c.maxLocals = (gk_inf P mi).1 ∧ meth.sig.returnType = (gk_inf P mi).2 ∧ meth.locks = false ∧ s.vm.findClass (yn mi).cls = some m.cls ∧ meth.name = (yn mi).name ∧ c.exceptionTable.toList.map (fun h => (h.startPc, h.endPc, h.handlerPc, h.catchType)) = hh mi
/-- how a walk ends: its outcome, the world behind it -/
def gk_Q (D : va_G) (cl : List vw_C) (cA : Nat → ClassId) (b sz : Nat) (below : List Frame) (s : State) (q : gk_Res × gk_Wd) (mc ms : Nat) : State → Prop := fun t =>
  ∃ (o : Outcome) (L : List Loc), t.status = .running ∧ Ended t below o ∧ (match q.1 with
    | .inl v => o = .returned (v.map (gk_v (gk_ad b sz)))
    | .inr _ => o = .threw (gk_ad b sz q.2.length)) ∧ s.WarmedH t.vm ∧ s.sameButNew ({ t with vm := s.vm } : State) L mc ms ∧ gk_I D cl cA b sz s q.2 t.heap L mc
section GK8
variable {p : Program} {l : Launch} {e : Env} {R : Room} {s : State} {m : MethodId} {args : Array Value} {below : List Frame} {meth : Method} {c : Code} {H : Heap} {locs : List Loc} {cells slots : Nat}
variable {cc : ByteArray} {pc : Nat} {ls : Array Slot} {D : va_G} {cl : List vw_C} {cA : Nat → ClassId} {b sz : Nat} {w : gk_Wd}
theorem gk_ret_i (hx : p.tables.exec = Jvm.exec) (hb : c.code = cc) {ty : FieldType} (hr : meth.sig.returnType = some ty) (hlocks : meth.locks = false) {x : Int32} (hf : fits ty (.int x) = true) (hI : gk_I D cl cA b sz s w H locs cells) (hd : decode cc pc = .ok (.ireturn, 1)) :
    W p l e R s m args below meth c H locs cells slots (gk_Q D cl cA b sz below s (.inl (some (.int x)), w) cells slots) (F0 m pc ls [.int x]) := by
  have hn := narrow_of_fits hf
  intro T hT X
  obtain ⟨fs, hret, hrun, hended, hW, hframe⟩ := X.leave (v := some (.int x)) (hlocks := hlocks) (fun h => by rw [hr] at h; cases h)
  have hmeth' : T.vm.method? m = some meth := X.method'
  refine ⟨T.setFrames fs, ?_, .returned (some (.int x)), locs, hrun, hended, rfl, hW, hframe, ?_⟩
  · jvm_step X.here [X.here.top, hx, hb, hd, hmeth', hr, hn]
    (try refine ⟨rfl, ?_⟩); (try refine ⟨rfl, ?_⟩)
    first | (intro acts; rw [hret _ acts rfl rfl rfl]) | rw [hret _ _ rfl rfl rfl]
    exact Steps.refl _
  · show gk_I D cl cA b sz s w T.heap locs cells
    rw [hT]; exact hI
theorem gk_ret_l (hx : p.tables.exec = Jvm.exec) (hb : c.code = cc) (hr : meth.sig.returnType = some .long) (hlocks : meth.locks = false) {x : Int64} (hI : gk_I D cl cA b sz s w H locs cells) (hd : decode cc pc = .ok (.lreturn, 1)) :
    W p l e R s m args below meth c H locs cells slots (gk_Q D cl cA b sz below s (.inl (some (.long x)), w) cells slots) (F0 m pc ls [.long x]) := by
  intro T hT X
  obtain ⟨fs, hret, hrun, hended, hW, hframe⟩ := X.leave (v := some (.long x)) (hlocks := hlocks) (fun h => by rw [hr] at h; cases h)
  have hmeth' : T.vm.method? m = some meth := X.method'
  refine ⟨T.setFrames fs, ?_, .returned (some (.long x)), locs, hrun, hended, rfl, hW, hframe, ?_⟩
  · jvm_step X.here [X.here.top, hx, hb, hd, hmeth', hr, narrow]
    (try refine ⟨rfl, ?_⟩); (try refine ⟨rfl, ?_⟩)
    first | (intro acts; rw [hret _ acts rfl rfl rfl]) | rw [hret _ _ rfl rfl rfl]
    exact Steps.refl _
  · show gk_I D cl cA b sz s w T.heap locs cells
    rw [hT]; exact hI
theorem gk_ret_v (hx : p.tables.exec = Jvm.exec) (hb : c.code = cc) (hr : meth.sig.returnType = none) (hlocks : meth.locks = false) (hI : gk_I D cl cA b sz s w H locs cells) (hd : decode cc pc = .ok (.return_, 1)) :
    W p l e R s m args below meth c H locs cells slots (gk_Q D cl cA b sz below s (.inl none, w) cells slots) (F0 m pc ls []) := by
  intro T hT X
  obtain ⟨fs, hret, hrun, hended, hW, hframe⟩ := X.leave (v := none) (hlocks := hlocks) (fun _ => rfl)
  have hmeth' : T.vm.method? m = some meth := X.method'
  refine ⟨T.setFrames fs, ?_, .returned none, locs, hrun, hended, rfl, hW, hframe, ?_⟩
  · jvm_step X.here [X.here.top, hx, hb, hd, hmeth', hr]
    (try refine ⟨rfl, ?_⟩); (try refine ⟨rfl, ?_⟩)
    first | (intro acts; rw [hret _ acts rfl rfl rfl]) | rw [hret _ _ rfl rfl rfl]
    exact Steps.refl _
  · show gk_I D cl cA b sz s w T.heap locs cells
    rw [hT]; exact hI
theorem gk_ret_ok (hx : p.tables.exec = Jvm.exec) (hb : c.code = cc) {rt : Option FieldType} (hr : meth.sig.returnType = rt) (hlocks : meth.locks = false) (hI : gk_I D cl cA b sz s w H locs cells) {i : Instr} {len : Nat} (hd : decode cc pc = .ok (i, len)) (hlen : gk_len i = 0 ∨ len = gk_len i) {st : List Value} {r : Option Value} (h : gk_ret rt st i = some r) :
    W p l e R s m args below meth c H locs cells slots (gk_Q D cl cA b sz below s (.inl r, w) cells slots) (F0 m pc ls (gk_vs (gk_ad b sz) st)) := by
  cases i with
  | return_ =>
    obtain rfl : len = 1 := by simpa [gk_len] using hlen
    simp only [gk_ret] at h
    split at h
    · cases h
      exact gk_ret_v hx hb hr hlocks hI hd
    · cases h
  | ireturn =>
    obtain rfl : len = 1 := by simpa [gk_len] using hlen
    simp only [gk_ret] at h
    split at h
    · split at h
      · rename_i hf
        cases h
        exact gk_ret_i hx hb hr hlocks hf hI hd
      · cases h
    · cases h
  | lreturn =>
    obtain rfl : len = 1 := by simpa [gk_len] using hlen
    simp only [gk_ret] at h
    split at h
    · cases h
      exact gk_ret_l hx hb hr hlocks hI hd
    · cases h
  | _ => cases h
end GK8
/-! entry: the arguments become the locals -/
theorem gk_slots_v (ad : Nat → Nat) : ∀ as : List Value, lg_sl (gk_vs ad as) = (as.flatMap gk_slots).map (fun o => match o with
    | some v => Slot.val (gk_v ad v)
    | none => Slot.second)
  | [] => rfl
  | v :: r => by
    have ih := gk_slots_v ad r
    unfold lg_sl at ih ⊢
    rw [gk_vs_cons, List.flatMap_cons, List.flatMap_cons, List.map_append, ih, gk_v_cat]
    congr 1
    unfold gk_slots
    split <;> rfl
theorem gk_entry_L (ad : Nat → Nat) (as : List Value) (n : Nat) (h : (as.flatMap gk_slots).length ≤ n) : gk_L ad ((lg_sl (gk_vs ad as) ++ List.replicate (n - (lg_sl (gk_vs ad as)).length) Slot.unset).toArray) (gk_entry as n) ∧ (gk_entry as n).length = n := by
  have hl : (lg_sl (gk_vs ad as)).length = (as.flatMap gk_slots).length := by rw [gk_slots_v, List.length_map]
  have hn : (gk_entry as n).length = n := by
    unfold gk_entry
    rw [List.length_append, List.length_replicate]
    omega
  have he := lv_entry (gk_vs ad as) (n := n) (by rw [hl]; exact h)
  refine ⟨⟨by rw [hn]; exact he.1, he.2.1, fun i v hi => ?_⟩, hn⟩
  unfold gk_entry at hi
  rw [List.getElem?_toArray]
  by_cases hlt : i < (as.flatMap gk_slots).length
  · rw [List.getElem?_append_left hlt] at hi
    rw [List.getElem?_append_left (by omega), gk_slots_v, List.getElem?_map, hi]
    rfl
  · rw [List.getElem?_append_right (by omega), List.getElem?_replicate] at hi
    split at hi <;> cases hi
theorem gk_weaken {tb : Tables} {e : Env} {g : Frame} {below : List Frame} {x y : State} (h : Steps tb e (g :: below) x y) : Steps tb e below x y := by
  obtain ⟨n, hn, hw⟩ := h
  exact ⟨n, hn, fun k hk => Within.weaken (mid := [g]) (hw k hk)⟩
/-- the interpreter of n steps is right of every method -/
def gk_Snd (p : Program) (l : Launch) (e : Env) (P : gk_Pg) (yn : Nat → MethodName) (code : Nat → ByteArray) (hh : Nat → List (Nat × Nat × Nat × Nat)) (D : va_G) (cl : List vw_C) (cA : Nat → ClassId) (b sz : Nat) (LW : List Cond) (J : State → Prop) (n : Nat) : Prop :=
  ∀ (scr : Option (List Int32)) (d mi pc : Nat) (lc : gk_Lc) (st : List Value) (w : gk_Wd) (q : gk_Res × gk_Wd), gk_run P n scr d mi pc lc st w = some q →
    ∀ (R : Room) (s : State) (m : MethodId) (args : Array Value) (below : List Frame) (meth : Method) (c : Code) (H : Heap) (locs : List Loc) (cells slots mc ms : Nat) (ls : Array Slot),
      gk_M P yn code hh mi s m meth c → gk_K D cl cA LW s → (∀ xs, scr = some xs → va_X b xs.length (fun j => xs.getD j 0) s s.heap) → J s → gk_I D cl cA b sz s w H locs cells → gk_L (gk_ad b sz) ls lc → lc.length = (gk_inf P mi).1 →
      d + 1 ≤ R.frames → 40 * d + 40 ≤ R.locals → mc ≤ R.cells → ms ≤ R.slots → mc + w.length = cells + q.2.length → ms + gk_sl (gk_nsl P) w = slots + gk_sl (gk_nsl P) q.2 →
      W p l e R s m args below meth c H locs cells slots (gk_Q D cl cA b sz below s q mc ms) (F0 m pc ls (gk_vs (gk_ad b sz) st))
section GK9
variable {p : Program} {l : Launch} {e : Env} {R : Room} {s : State} {m : MethodId} {args : Array Value} {below : List Frame} {meth : Method} {c : Code} {T : State} {locs : List Loc} {cells slots : Nat}
variable {D : va_G} {cl : List vw_C} {cA : Nat → ClassId} {b sz : Nat} {w : gk_Wd} {P : gk_Pg} {yn : Nat → MethodName} {code : Nat → ByteArray} {hh : Nat → List (Nat × Nat × Nat × Nat)} {LW : List Cond} {J : State → Prop}
/-- what holds behind the callee, said of the caller -/
theorem gk_I_back {s' : State} {t : State} {L : List Loc} {k : Nat} {w1 : gk_Wd} {H1 : Heap} (hI : gk_I D cl cA b sz s w T.heap locs cells) (hs : s'.heap = T.heap) (hI' : gk_I D cl cA b sz s' w1 t.heap L k) (hH : H1 = t.heap) : gk_I D cl cA b sz s w1 H1 (locs ++ L) (cells + k) := by
  subst hH
  obtain ⟨p1, p2, p3, p4, p5⟩ := hI
  obtain ⟨q1, q2, q3, q4, q5⟩ := hI'
  rw [hs] at q2 q4 q5
  refine ⟨q1, ⟨Nat.le_trans p2.1 q2.1, fun q h1 h2 => ?_, fun x hx => ?_⟩, q3, by omega, p5⟩
  · rw [q2.2.1 q (Nat.lt_of_lt_of_le h1 p2.1) h2]
    exact p2.2.1 q h1 h2
  · rcases List.mem_append.mp hx with h | h
    · exact p2.2.2 x h
    · exact q2.2.2 x h
set_option maxHeartbeats 1000000 in
theorem gk_go {n : Nat} (IH : gk_Snd p l e P yn code hh D cl cA b sz LW J n) (hLW : ∀ w ∈ LW, gk_stab w) (hJ : ∀ s U : State, J s → s.WarmedH U.vm → (∀ q, q < sz → U.heap[q]? = s.heap[q]?) → J U) (X : Stand p l e R s m args below meth c T locs cells slots) (hK : gk_K D cl cA LW s) (hJs : J s)
    (hI : gk_I D cl cA b sz s w T.heap locs cells) {g : JFrame} (hg : g.method = m) (hsize : g.locals.size = c.maxLocals) {ig : Instr} {len : Nat} (hdg : decode c.code g.pc = .ok (ig, len)) (hcat : 2 * g.monitorRoom + (g.stack.map fun v => v.category).sum ≤ 8)
    {mj d : Nat} (hCw : gk_Cw LW (yn mj) (code mj) (gk_inf P mj).1 (gk_inf P mj).2 (hh mj)) (hpl : plainFor (yn mj) = true) (hml : (gk_inf P mj).1 ≤ 21) {mk : MethodId} (hn : s.methodNamed? (yn mj) = some mk)
    {as : List Value} (hfit : (as.flatMap gk_slots).length ≤ (gk_inf P mj).1) {q : gk_Res × gk_Wd} (hrun : gk_run P n none d mj 0 (gk_entry as (gk_inf P mj).1) [] w = some q)
    (hfr : d + 1 + 1 ≤ R.frames) (hlo : 40 * (d + 1) + 40 ≤ R.locals) (hc : cells + q.2.length ≤ R.cells + w.length) (hs : slots + gk_sl (gk_nsl P) q.2 ≤ R.slots + gk_sl (gk_nsl P) w) :
    ∃ (t T' : State) (L : List Loc) (k n' : Nat), (∀ acts, Steps p.tables e below (doInvoke e (T.setTop g) acts mk (gk_vs (gk_ad b sz) as).toArray).1 t) ∧ Stand p l e R s m args below meth c T' (locs ++ L) (cells + k) (slots + n') ∧ gk_I D cl cA b sz s q.2 T'.heap (locs ++ L) (cells + k) ∧ k + w.length = q.2.length ∧ n' + gk_sl (gk_nsl P) w = gk_sl (gk_nsl P) q.2 ∧
      (match q.1 with
        | .inl v => t = T'.setTop { g with pc := g.pc + len, stack := (v.map (gk_v (gk_ad b sz))).toList ++ g.stack }
        | .inr _ => t = (T'.setTop g).pushFrame (.throwing (gk_ad b sz q.2.length))) := by
  have hmono := gk_run_mono n none d mj 0 _ _ _ _ hrun
  obtain ⟨k, hk⟩ : ∃ k, k + w.length = q.2.length := ⟨q.2.length - w.length, by omega⟩
  obtain ⟨n', hn'⟩ : ∃ n', n' + gk_sl (gk_nsl P) w = gk_sl (gk_nsl P) q.2 := ⟨gk_sl (gk_nsl P) q.2 - gk_sl (gk_nsl P) w, by omega⟩
  obtain ⟨mk', methk, ck, hn2, hmk, hck, hby, hmx, hrt, hlk, hex, -⟩ := gk_code_at hK.2 hCw
  cases hn.symm.trans hn2
  have hnT : T.methodNamed? (yn mj) = some mk := X.named hn
  have hmT : T.vm.method? mk = some methk := by rw [X.warmed.alike.method?]; exact hmk
  obtain ⟨Y, hin⟩ := X.into hg hsize hdg (gk_vs (gk_ad b sz) as).toArray (R' := { frames := d + 1, cells := k, slots := n', locals := 40 * d + 40 }) hmT hck hlk (State.plainMethod.of_named hpl hnT hmT) (by show d + 1 + 1 ≤ _; omega) (by show _ + (40 * d + 40) ≤ _; rw [hmx]; omega) (by show cells + k ≤ _; omega) (by show slots + n' ≤ _; omega)
  have hUh : ((T.setTop g).pushFrame (.java (entryFrame mk (gk_vs (gk_ad b sz) as).toArray ck.maxLocals))).heap = T.heap := rfl
  generalize (T.setTop g).pushFrame (.java (entryFrame mk (gk_vs (gk_ad b sz) as).toArray ck.maxLocals)) = U at Y hin hUh
  have hsv : (T.calling g mk (gk_vs (gk_ad b sz) as).toArray).vm = T.vm := rfl
  have hsh : (T.calling g mk (gk_vs (gk_ad b sz) as).toArray).heap = T.heap := rfl
  generalize hs' : T.calling g mk (gk_vs (gk_ad b sz) as).toArray = s' at Y hsv hsh
  have hWs : s.WarmedH s'.vm := by rw [hsv]; exact X.warmed
  have hnS : s'.methodNamed? (yn mj) = some mk := by rw [← hs']; exact hnT
  have hJ' : J s' := hJ s s' hJs hWs (fun q hq => by rw [hsh]; exact hI.2.1.2.1 q (Nat.lt_of_lt_of_le hq hI.2.2.2.2) (fun z => absurd hq (Nat.not_lt.mpr z)))
  have hI' : gk_I D cl cA b sz s' w T.heap [] 0 := ⟨hI.1, by rw [hsh]; exact va_S.rf, hI.2.2.1, by rw [hsh, hI.2.2.1]; rfl, by rw [hsh]; exact Nat.le_trans hI.2.2.2.2 hI.2.1.1⟩
  obtain ⟨hL, hLn⟩ := gk_entry_L (gk_ad b sz) as (gk_inf P mj).1 hfit
  have hmS : s'.vm.method? mk = some methk := by rw [hsv]; exact hmT
  have hM : gk_M P yn code hh mj s' mk methk ck := ⟨hby, hmx, hrt, hlk, findClass_of_methodNamed hnS, (name_of_methodNamed hnS hmS).1, hex⟩
  obtain ⟨t, hst, o, L, hrun', hend, ho, hW, hsame, hIt⟩ := IH none d mj 0 (gk_entry as (gk_inf P mj).1) [] w q hrun { frames := d + 1, cells := k, slots := n', locals := 40 * d + 40 } s' mk (gk_vs (gk_ad b sz) as).toArray (.java g :: below) methk ck T.heap [] 0 0 k n' _ hM (gk_K_warm hLW hWs hK) (fun _ z => by cases z) hJ' hI' hL hLn (Nat.le_refl _) (Nat.le_refl _) (Nat.le_refl _) (Nat.le_refl _) (by omega) (by omega) U hUh Y
  have hst2 : ∀ acts, Steps p.tables e below (doInvoke e (T.setTop g) acts mk (gk_vs (gk_ad b sz) as).toArray).1 t := by
    intro acts
    rw [hin acts]
    refine gk_weaken (g := .java g) ?_
    rw [hmx, lg_entry_eq]
    exact hst
  subst hs'
  obtain ⟨res, w1⟩ := q
  cases res with
  | inl v =>
    have ho' : o = .returned (v.map (gk_v (gk_ad b sz))) := ho
    subst ho'
    obtain ⟨T', X', -, -, ht⟩ := X.outOf hg hdg hend hW hsame
    refine ⟨t, T', L, k, n', hst2, X', gk_I_back hI hsh hIt (by rw [ht]; rfl), hk, by omega, ht⟩
  | inr ci =>
    have ho' : o = .threw (gk_ad b sz w1.length) := ho
    subst ho'
    obtain ⟨T', X', -, -, ht⟩ := X.outOfThrown hg hend hW hsame
    refine ⟨t, T', L, k, n', hst2, X', gk_I_back hI hsh hIt (by rw [ht]; rfl), hk, by omega, ht⟩
end GK9
