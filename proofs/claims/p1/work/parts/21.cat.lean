/-! part 12: handlers, their classes resolved or not -/
section GK15
variable {E : CtlPost} {e : Env} {d : Bool} {acts : List Action} {S : State} {f : JFrame} {a : Addr} {Q : Handler → Pre}
theorem gk_go_cold {x : ExceptionTableEntry} {t : List ExceptionTableEntry} {c : ClassId} {cell : Cell} {vm' : Vm} (hx : covers x f.pc = true) (h0 : x.catchType ≠ 0)
    (hg : (Jvm.resolveClass f.method.cls x.catchType).Gives e.toSetting S.vm (.ok c) vm') (hsz : vm'.classes.size ≤ S.vm.classes.size) (hcell : S.heap[a]? = some cell) (hobj : ∀ k, cell.vm ≠ .statics k) (hk : ∃ k, vm'.classes[cell.cls]? = some k) (hc : ∃ k, vm'.classes[c]? = some k) :
    wp (findHandler.go f a (x :: t)) Q E e d acts S ↔ if vm'.assignable cell.cls c = true then Q (.found x.handlerPc) d acts (S.setVm vm') else wp (findHandler.go f a t) Q E e d acts (S.setVm vm') := by
  simp only [covers] at hx
  obtain ⟨ha, ht⟩ := hg.op (op := VmOp.resolveClass f.method.cls x.catchType) rfl
  cases hfit : vm'.assignable cell.cls c <;>
    simp [findHandler.go, hx, h0, ha, ht, hsz, hcell, hobj, hk, hc, hfit, VmOp.dirties, VmOp.acts]
end GK15
def gk_Finds (e : Env) (S : State) (f : JFrame) (a : Addr) (h : Handler) (S' : State) : Prop := ∀ (Q : Handler → Pre) (E : CtlPost) (d : Bool) (acts : List Action), wp (findHandler f a) Q E e d acts S ↔ Q h d acts S'
theorem gk_step_catch {e : Env} {S S' : State} {a : Addr} {f : JFrame} {r : List Frame} {pc : Nat} (hfind : gk_Finds e S f a (.found pc) S') : (stepThrowing e S a (.java f :: r)).Is (S'.setFrames (.java { f with pc := pc, stack := [.ref a] } :: r)) [] := by
  simp only [stepThrowing, searchFrame, vmDo]
  generalize hr : Sem.go _ e false [] S = res
  obtain ⟨as, rfl, ha⟩ := Sem.eq_ok_of hr (a := Handler.found pc) (s' := S') (acts' := []) (by simp [hfind _ _ _ _])
  exact ⟨rfl, ha⟩
theorem gk_caught {tb : Tables} {e : Env} {T target : State} {g : JFrame} {c : Code} {below : List Frame} {a : Addr} {pc : Nat} {vm₁ : Vm} (h : At T g.method c below) (hfind : gk_Finds e ((T.setTop g).pushFrame (.throwing a)) g a (.found pc) (((T.setVm vm₁).setTop g).pushFrame (.throwing a)))
    (hrest : Steps tb e below ((T.setVm vm₁).setTop { g with pc := pc, stack := [.ref a] }) target) : Steps tb e below ((T.setTop g).pushFrame (.throwing a)) target := by
  obtain ⟨hgo, hw⟩ := h.throwing a
  refine Steps.head hgo hw ?_
  rw [stepThread_throwing (frames_entered h.top _), (gk_step_catch hfind).1]
  obtain ⟨g₀, hg⟩ := Option.isSome_iff_exists.mp h.top
  obtain ⟨r, hr⟩ := State.topJava?_eq_some.mp hg
  have hr' : (T.setVm vm₁).frames = .java g₀ :: r := hr
  rw [State.pushFrame, State.setFrames_setFrames, State.setTop_of_frames _ hr', State.setFrames_setFrames]
  rw [State.setTop_of_frames _ hr'] at hrest
  rw [hr]
  exact hrest
theorem gk_assign_refl (vm : Vm) (c : ClassId) : vm.assignable c c = true := by
  show vm.assignableAux (255 + 1) c c = true
  rw [Vm.assignableAux]
  simp
section GK16
variable {p : Program} {l : Launch} {e : Env} {R : Room} {s : State} {m : MethodId} {args : Array Value} {below : List Frame} {meth : Method} {c : Code} {locs : List Loc} {cells slots : Nat}
theorem gk_find_list {own C : String} (hown : s.vm.findClass own = some m.cls) {g : JFrame} (hg : g.method = m) {a : Addr} {cell : Cell} (hvm : cell.vm = .none) (hcls : s.vm.findClass C = some cell.cls) {x : ExceptionTableEntry} {post : List ExceptionTableEntry} (hx : covers x g.pc = true) (hx0 : x.catchType ≠ 0) (hxl : (Cond.classLink own x.catchType C).before args s = true) :
    ∀ (pre : List ExceptionTableEntry), (∀ y ∈ pre, covers y g.pc = true ∧ y.catchType ≠ 0 ∧ ∃ C', (Cond.classLink own y.catchType C').before args s = true ∧ va_Nc C C' s) → ∀ T : State, T.heap[a]? = some cell → Stand p l e R s m args below meth c T locs cells slots →
      ∃ vm₁ : Vm, Stand p l e R s m args below meth c (T.setVm vm₁) locs cells slots ∧ ∀ (Q : Handler → Pre) (E : CtlPost) (d : Bool) (acts : List Action), wp (findHandler.go g a (pre ++ x :: post)) Q E e d acts ((T.setTop g).pushFrame (.throwing a)) ↔ Q (.found x.handlerPc) d acts (((T.setVm vm₁).setTop g).pushFrame (.throwing a)) := by
  have hobj : ∀ k, cell.vm ≠ .statics k := fun k h => by rw [hvm] at h; cases h
  intro pre
  induction pre with
  | nil =>
    intro _ T hcell X
    have hpl : e.platform.magicAccessors = ({} : Platform).magicAccessors := by rw [X.admits.platform]
    obtain ⟨cc, hfcc, hcl⟩ := Cond.classLink_spec hown hxl e.platform hpl
    cases hcls.symm.trans hfcc
    obtain ⟨hg₁, hwarm, hready⟩ := State.classEntry (e := e) X.warmed hcl
    have X₁ := X.noted hwarm
    have hex : ∃ k, (T.vm.noted m.cls x.catchType (.cls cell.cls)).classes[cell.cls]? = some k := Vm.classAt_of_findClass (name := C) (by rw [hwarm.alike.findClass]; exact hcls)
    refine ⟨_, X₁, fun Q E d acts => ?_⟩
    subst hg
    rw [List.nil_append, gk_go_cold (S := (T.setTop g).pushFrame (.throwing a)) (vm' := T.vm.noted g.method.cls x.catchType (.cls cell.cls)) hx hx0 hg₁ (Nat.le_of_eq (by rw [Stand.throwing_vm]; exact Vm.size_noted ..)) (by rw [Stand.throwing_heap]; exact hcell) hobj hex hex, if_pos (gk_assign_refl _ _)]
    rfl
  | cons y pre ih =>
    intro hpre T hcell X
    obtain ⟨hy, hy0, C', hyl, ⟨c1, t1, n1, n2, n3⟩⟩ := hpre y List.mem_cons_self
    have hpl : e.platform.magicAccessors = ({} : Platform).magicAccessors := by rw [X.admits.platform]
    obtain ⟨cc, hfcc, hcl⟩ := Cond.classLink_spec hown hyl e.platform hpl
    cases n2.symm.trans hfcc
    cases hcls.symm.trans n1
    obtain ⟨hg₁, hwarm, hready⟩ := State.classEntry (e := e) X.warmed hcl
    have X₁ := X.noted hwarm
    have hex : ∃ k, (T.vm.noted m.cls y.catchType (.cls t1)).classes[cell.cls]? = some k := Vm.classAt_of_findClass (name := C) (by rw [hwarm.alike.findClass]; exact hcls)
    have hex2 : ∃ k, (T.vm.noted m.cls y.catchType (.cls t1)).classes[t1]? = some k := Vm.classAt_of_findClass (name := C') (by rw [hwarm.alike.findClass]; exact n2)
    have hna : ¬ (T.vm.noted m.cls y.catchType (.cls t1)).assignable cell.cls t1 = true := by
      rw [hwarm.alike.assignable, n3]; decide
    obtain ⟨vm₁, X₂, hfind⟩ := ih (fun z hz => hpre z (List.mem_cons_of_mem _ hz)) (T.setVm (T.vm.noted m.cls y.catchType (.cls t1))) hcell X₁
    refine ⟨vm₁, X₂, fun Q E d acts => ?_⟩
    subst hg
    rw [List.cons_append, gk_go_cold (S := (T.setTop g).pushFrame (.throwing a)) (vm' := T.vm.noted g.method.cls y.catchType (.cls t1)) hy hy0 hg₁ (Nat.le_of_eq (by rw [Stand.throwing_vm]; exact Vm.size_noted ..)) (by rw [Stand.throwing_heap]; exact hcell) hobj hex hex2, if_neg hna]
    exact hfind Q E d acts
end GK16
