/-! part 13: a handler is what the interpreter says of it; the interpreter is right, no premise of throws left -/
def gk_TH (P : gk_Pg) (yn : Nat → MethodName) (hh : Nat → List (Nat × Nat × Nat × Nat)) (cl : List vw_C) (LW : List Cond) (J : State → Prop) : Prop := ∀ mi pc ci h : Nat, gk_hnd P mi pc ci = some h → ∃ (C : String) (T : u_T) (N : Nat) (pre post : List (Nat × Nat × Nat × Nat)) (st en ct : Nat),
  cl[ci]? = some (C, T, N) ∧ hh mi = pre ++ (st, en, h, ct) :: post ∧ st ≤ pc ∧ pc < en ∧ ct ≠ 0 ∧ Cond.classLink (yn mi).cls ct C ∈ LW ∧ ∀ y ∈ pre, y.1 ≤ pc ∧ pc < y.2.1 ∧ y.2.2.2 ≠ 0 ∧ ∃ C' : String, Cond.classLink (yn mi).cls y.2.2.2 C' ∈ LW ∧ ∀ s : State, J s → va_Nc C C' s
section GK17
variable {p : Program} {l : Launch} {e : Env} {D : va_G} {cl : List vw_C} {cA : Nat → ClassId} {b sz : Nat} {P : gk_Pg} {yn : Nat → MethodName} {code : Nat → ByteArray} {hh : Nat → List (Nat × Nat × Nat × Nat)} {LW : List Cond} {J : State → Prop}
set_option maxHeartbeats 1000000 in
theorem gk_cat_ok (hTH : gk_TH P yn hh cl LW J) : gk_Cat p l e P yn code hh D cl cA b sz LW J := by
  intro mi pc ci h w hh0 R s m args below meth c T locs cells slots ls rest hM hK hJs X hI ⟨fs, hw⟩
  obtain ⟨hb, hml, hrt, hlk, hown, hnm, hex⟩ := hM
  obtain ⟨C, Tt, N, pre, post, st, en, ct, hc, hhe, h1, h2, h3, hcl, hpre⟩ := hTH mi pc ci h hh0
  rw [hhe] at hex
  obtain ⟨pre', rest', hsp, hpre', hrest'⟩ := List.map_eq_append_iff.mp hex
  obtain ⟨x, post', hrr, hx, hpost'⟩ := List.map_eq_cons_iff.mp hrest'
  subst hrr
  have hx1 : x.startPc = st := congrArg (fun q => q.1) hx
  have hx2 : x.endPc = en := congrArg (fun q => q.2.1) hx
  have hx3 : x.handlerPc = h := congrArg (fun q => q.2.2.1) hx
  have hx4 : x.catchType = ct := congrArg (fun q => q.2.2.2) hx
  have hwl : 0 < w.length := Nat.lt_of_le_of_lt (Nat.zero_le _) (List.getElem?_eq_some_iff.mp hw).1
  obtain ⟨k, hk⟩ : ∃ k, w.length = k + 1 := ⟨w.length - 1, by omega⟩
  rw [hk] at hw ⊢
  have hw' : w[k]? = some (.inl (ci, fs)) := hw
  obtain ⟨r, hr, cell, g1, g2, g3, -⟩ := hI.1 k _ (gk_w_at hw')
  have hcls : s.vm.findClass C = some cell.cls := by rw [g2]; exact (hK.1.1 ci (C, Tt, N) hc).2.1
  have hcell : T.heap[gk_ad b sz (k + 1)]? = some cell := g1
  obtain ⟨vm₁, X₁, hfind⟩ := gk_find_list (g := F0 m pc ls rest) (a := gk_ad b sz (k + 1)) (cell := cell) (x := x) (post := post') hown rfl g3 hcls (by simp [covers, hx1, hx2]; exact ⟨h1, h2⟩) (by rw [hx4]; exact h3) (by rw [hx4]; exact hK.2 _ hcl args) pre' (fun y hy => by
    have hy' : (y.startPc, y.endPc, y.handlerPc, y.catchType) ∈ pre := by rw [← hpre']; exact List.mem_map.mpr ⟨y, hy, rfl⟩
    obtain ⟨q1, q2, q3, C', q4, q5⟩ := hpre _ hy'
    exact ⟨by simp [covers]; exact ⟨q1, q2⟩, q3, C', hK.2 _ q4 args, q5 s hJs⟩) T hcell X
  refine ⟨vm₁, X₁, fun target hst => ?_⟩
  refine gk_caught (g := F0 m pc ls rest) (pc := h) (vm₁ := vm₁) X.here (fun Q E d acts => ?_) hst
  rw [Jvm.W.findHandler_eq (meth := meth) (code := c) X.method' X.code, hsp, hfind Q E d acts, hx3]
theorem gk_right (hx : p.tables.exec = Jvm.exec) (htr : e.platform.stackTraces = false) (hT : gk_TT P yn cl LW) (hTK : gk_TK P yn code hh cl LW) (hTD : gk_TD P code) (hTY : gk_TY P yn code hh cl LW J) (hTH : gk_TH P yn hh cl LW J) (hLW : ∀ w ∈ LW, gk_stab w) (hJ : ∀ s U : State, J s → s.WarmedH U.vm → (∀ q, q < sz → U.heap[q]? = s.heap[q]?) → J U) (hbz : b < sz) :
    ∀ n, gk_Snd p l e P yn code hh D cl cA b sz LW J n :=
  gk_sound hx hT hTK hTD hLW hJ hbz (gk_thr hx htr hTY hLW hJ) (gk_cat_ok hTH)
end GK17
