/-! part 4: arrays, new cells, the script, the library's three members, over the abstract world -/
theorem gk_getD_set {α : Type} (xs : List α) (i : Nat) (x d : α) (hi : i < xs.length) (j : Nat) : (xs.set i x).getD j d = if j = i then x else xs.getD j d := by
  rw [List.getD_eq_getElem?_getD, List.getD_eq_getElem?_getD, List.getElem?_set]
  by_cases h : j = i
  · subst h
    simp [hi]
  · rw [if_neg h, if_neg (fun q => h q.symm)]
theorem gk_upd (xs : List Int32) (i : Nat) (x : Int32) (hi : i < xs.length) : upd (fun j => xs.getD j 0) i x = fun j => (xs.set i x).getD j 0 := by
  funext j
  rw [gk_getD_set xs i x 0 hi j]
  rfl
theorem gk_updL (xs : List Int64) (i : Nat) (x : Int64) (hi : i < xs.length) : vp_updL (fun j => xs.getD j 0) i x = fun j => (xs.set i x).getD j 0 := by
  funext j
  rw [gk_getD_set xs i x 0 hi j]
  rfl
theorem gk_nar {ty : FieldType} {x : Int32} (h : fits ty (.int x) = true) : vp_nar ty x = x := by
  unfold vp_nar
  rw [narrow_of_fits h]
theorem gk_rep (n : Nat) : (fun j => (List.replicate n (0 : Int32)).getD j 0) = fun _ => 0 := by
  funext j
  rw [List.getD_eq_getElem?_getD, List.getElem?_replicate]
  split <;> rfl
theorem gk_repL (n : Nat) : (fun j => (List.replicate n (0 : Int64)).getD j 0) = fun _ => 0 := by
  funext j
  rw [List.getD_eq_getElem?_getD, List.getElem?_replicate]
  split <;> rfl
def gk_cpy (f g : List Int64) (sp dp n : Nat) : List Int64 := g.take dp ++ ((f.drop sp).take n ++ g.drop (dp + n))
theorem gk_cpy_len (f g : List Int64) (sp dp n : Nat) (h1 : sp + n ≤ f.length) (h2 : dp + n ≤ g.length) : (gk_cpy f g sp dp n).length = g.length := by
  simp [gk_cpy]
  omega
theorem gk_cpy_fun (f g : List Int64) (sp dp n : Nat) (h1 : sp + n ≤ f.length) (h2 : dp + n ≤ g.length) : va_cpy (fun j => f.getD j 0) (fun j => g.getD j 0) sp dp n = fun j => (gk_cpy f g sp dp n).getD j 0 := by
  funext j
  unfold va_cpy gk_cpy
  simp only [List.getD_eq_getElem?_getD]
  have e1 : (g.take dp).length = dp := by simp; omega
  have e2 : ((f.drop sp).take n).length = n := by simp; omega
  by_cases a : j < dp
  · rw [if_neg (by omega), List.getElem?_append_left (by omega), List.getElem?_take_of_lt a]
  · rw [List.getElem?_append_right (by omega), e1]
    by_cases b : j < dp + n
    · rw [if_pos ⟨by omega, b⟩, List.getElem?_append_left (by omega), List.getElem?_take_of_lt (by omega), List.getElem?_drop]
    · rw [if_neg (by omega), List.getElem?_append_right (by omega), e2, List.getElem?_drop]
      congr 2
      omega
section GK4
variable {p : Program} {l : Launch} {e : Env} {R : Room} {s : State} {m : MethodId} {args : Array Value} {below : List Frame} {meth : Method} {c : Code} {H : Heap} {locs : List Loc} {cells slots : Nat} {Q : State → Prop}
variable {cc : ByteArray} {pc : Nat} {ls : Array Slot} {rest : List Value} {D : va_G} {cl : List vw_C} {cA : Nat → ClassId} {b sz : Nat} {w : gk_Wd} {LW : List Cond} {fty : Nat → Nat → FieldType} {own : String}
theorem gk_iald (hx : p.tables.exec = Jvm.exec) (hb : c.code = cc) (hK : gk_K D cl cA LW s) (hI : gk_I D cl cA b sz s w H locs cells) {a : Nat} {xs : List Int32} {i : Int32} (ha : w[a]? = some (.inr (.inl (0, xs)))) (hin : vp_in i xs.length) (hd : decode cc pc = .ok (.iaload, 1))
    (kk : W p l e R s m args below meth c H locs cells slots Q (F0 m (pc + 1) ls (.int (xs.getD i.toNatClampNeg 0) :: rest))) : W p l e R s m args below meth c H locs cells slots Q (F0 m pc ls (.int i :: .ref (sz + a) :: rest)) :=
  va_iald (f := fun j => xs.getD j 0) (n := xs.length) (cA := cA 0) hx hb hK.1 hI.1 a 0 (gk_w_at ha) rfl hin hd kk
theorem gk_cald (hx : p.tables.exec = Jvm.exec) (hb : c.code = cc) (hK : gk_K D cl cA LW s) (hI : gk_I D cl cA b sz s w H locs cells) {a : Nat} {xs : List Int32} {i : Int32} (ha : w[a]? = some (.inr (.inl (1, xs)))) (hin : vp_in i xs.length) (hd : decode cc pc = .ok (.caload, 1))
    (kk : W p l e R s m args below meth c H locs cells slots Q (F0 m (pc + 1) ls (.int (xs.getD i.toNatClampNeg 0) :: rest))) : W p l e R s m args below meth c H locs cells slots Q (F0 m pc ls (.int i :: .ref (sz + a) :: rest)) :=
  va_cald (f := fun j => xs.getD j 0) (n := xs.length) (cA := cA 1) hx hb hK.1 hI.1 a 1 (gk_w_at ha) rfl hin hd kk
theorem gk_zald (hx : p.tables.exec = Jvm.exec) (hb : c.code = cc) (hK : gk_K D cl cA LW s) (hI : gk_I D cl cA b sz s w H locs cells) {a : Nat} {xs : List Int32} {i : Int32} (ha : w[a]? = some (.inr (.inl (2, xs)))) (hin : vp_in i xs.length) (hd : decode cc pc = .ok (.baload, 1))
    (kk : W p l e R s m args below meth c H locs cells slots Q (F0 m (pc + 1) ls (.int (xs.getD i.toNatClampNeg 0) :: rest))) : W p l e R s m args below meth c H locs cells slots Q (F0 m pc ls (.int i :: .ref (sz + a) :: rest)) :=
  va_zald (f := fun j => xs.getD j 0) (n := xs.length) (cA := cA 2) hx hb hK.1 hI.1 a 2 (gk_w_at ha) rfl hin hd kk
theorem gk_lald (hx : p.tables.exec = Jvm.exec) (hb : c.code = cc) (hK : gk_K D cl cA LW s) (hI : gk_I D cl cA b sz s w H locs cells) {a : Nat} {xs : List Int64} {i : Int32} (ha : w[a]? = some (.inr (.inr xs))) (hin : vp_in i xs.length) (hd : decode cc pc = .ok (.laload, 1))
    (kk : W p l e R s m args below meth c H locs cells slots Q (F0 m (pc + 1) ls (.long (xs.getD i.toNatClampNeg 0) :: rest))) : W p l e R s m args below meth c H locs cells slots Q (F0 m pc ls (.int i :: .ref (sz + a) :: rest)) :=
  va_lald (f := fun j => xs.getD j 0) (n := xs.length) (cA := cA 3) hx hb hK.1 hI.1 a 3 (gk_w_at ha) rfl hin hd kk
/-- behind a write: the world is the new one -/
theorem gk_back (hI : gk_I D cl cA b sz s w H locs cells) {a : Nat} {c0 c1 : gk_AC} (ha : w[a]? = some c0) {g : JFrame} {H1 : Heap} {locs1 : List Loc} {x : va_E} (hx : x = gk_e (gk_ad b sz) cA c1) (hP : va_P D cl ((gk_w b sz cA w).set a (sz + a, x)) H1) (hS : va_S (fun q => sz ≤ q) s.heap H1 locs1)
    (kk : gk_I D cl cA b sz s (w.set a c1) H1 locs1 cells → W p l e R s m args below meth c H1 locs1 cells slots Q g) : W p l e R s m args below meth c H1 locs1 cells slots Q g := by
  subst hx
  have hge : sz + w.length ≤ H1.size := by
    have h0 := hP
    rw [gk_w_set] at h0
    have hlen : 0 < (w.set a c1 : gk_Wd).length := by
      rw [List.length_set]
      exact Nat.lt_of_le_of_lt (Nat.zero_le _) (List.getElem?_eq_some_iff.mp ha).1
    have h1 := gk_P_lt h0 hlen
    rw [List.length_set] at h1
    exact h1
  exact gk_exact hge (Nat.le_of_eq hI.2.2.2.1) (fun hz => kk (gk_I_after hI hP hS hz))
theorem gk_in_lt {i : Int32} {n : Nat} (h : vp_in i n) : i.toNatClampNeg < n := Nat.not_le.mp fun q => h (Or.inr q)
theorem gk_iast (hx : p.tables.exec = Jvm.exec) (hb : c.code = cc) (hK : gk_K D cl cA LW s) (hI : gk_I D cl cA b sz s w H locs cells) {a : Nat} {xs : List Int32} {i x : Int32} (ha : w[a]? = some (.inr (.inl (0, xs)))) (hin : vp_in i xs.length) (hd : decode cc pc = .ok (.iastore, 1))
    (kk : ∀ (H1 : Heap) (locs1 : List Loc), gk_I D cl cA b sz s (w.set a (.inr (.inl (0, xs.set i.toNatClampNeg x)))) H1 locs1 cells → W p l e R s m args below meth c H1 locs1 cells slots Q (F0 m (pc + 1) ls rest)) : W p l e R s m args below meth c H locs cells slots Q (F0 m pc ls (.int x :: .int i :: .ref (sz + a) :: rest)) := by
  refine va_iast (f := fun j => xs.getD j 0) (n := xs.length) (cA := cA 0) hx hb hK.1 hI.1 (gk_w_D b sz cA w) hI.2.1 a 0 (gk_w_at ha) rfl hin hd fun H1 locs1 hP _ hS => gk_back hI ha ?_ hP hS (kk H1 locs1)
  show Sum.inl (cA 0, xs.length, Sum.inl _) = Sum.inl (cA 0, (xs.set i.toNatClampNeg x).length, Sum.inl _)
  rw [gk_upd xs _ x (gk_in_lt hin), List.length_set]
theorem gk_cast (hx : p.tables.exec = Jvm.exec) (hb : c.code = cc) (hK : gk_K D cl cA LW s) (hI : gk_I D cl cA b sz s w H locs cells) {a : Nat} {xs : List Int32} {i x : Int32} (ha : w[a]? = some (.inr (.inl (1, xs)))) (hin : vp_in i xs.length) (hf : fits .char (.int x) = true) (hd : decode cc pc = .ok (.castore, 1))
    (kk : ∀ (H1 : Heap) (locs1 : List Loc), gk_I D cl cA b sz s (w.set a (.inr (.inl (1, xs.set i.toNatClampNeg x)))) H1 locs1 cells → W p l e R s m args below meth c H1 locs1 cells slots Q (F0 m (pc + 1) ls rest)) : W p l e R s m args below meth c H locs cells slots Q (F0 m pc ls (.int x :: .int i :: .ref (sz + a) :: rest)) := by
  refine va_cast (f := fun j => xs.getD j 0) (n := xs.length) (cA := cA 1) hx hb hK.1 hI.1 (gk_w_D b sz cA w) hI.2.1 a 1 (gk_w_at ha) rfl hin hd fun H1 locs1 hP _ hS => gk_back hI ha ?_ hP hS (kk H1 locs1)
  show Sum.inl (cA 1, xs.length, Sum.inl _) = Sum.inl (cA 1, (xs.set i.toNatClampNeg x).length, Sum.inl _)
  rw [gk_nar hf, gk_upd xs _ x (gk_in_lt hin), List.length_set]
theorem gk_zast (hx : p.tables.exec = Jvm.exec) (hb : c.code = cc) (hK : gk_K D cl cA LW s) (hI : gk_I D cl cA b sz s w H locs cells) {a : Nat} {xs : List Int32} {i x : Int32} (ha : w[a]? = some (.inr (.inl (2, xs)))) (hin : vp_in i xs.length) (hf : fits .boolean (.int x) = true) (hd : decode cc pc = .ok (.bastore, 1))
    (kk : ∀ (H1 : Heap) (locs1 : List Loc), gk_I D cl cA b sz s (w.set a (.inr (.inl (2, xs.set i.toNatClampNeg x)))) H1 locs1 cells → W p l e R s m args below meth c H1 locs1 cells slots Q (F0 m (pc + 1) ls rest)) : W p l e R s m args below meth c H locs cells slots Q (F0 m pc ls (.int x :: .int i :: .ref (sz + a) :: rest)) := by
  refine va_zast (f := fun j => xs.getD j 0) (n := xs.length) (cA := cA 2) hx hb hK.1 hI.1 (gk_w_D b sz cA w) hI.2.1 a 2 (gk_w_at ha) rfl hin hd fun H1 locs1 hP _ hS => gk_back hI ha ?_ hP hS (kk H1 locs1)
  show Sum.inl (cA 2, xs.length, Sum.inl _) = Sum.inl (cA 2, (xs.set i.toNatClampNeg x).length, Sum.inl _)
  rw [gk_nar hf, gk_upd xs _ x (gk_in_lt hin), List.length_set]
theorem gk_last (hx : p.tables.exec = Jvm.exec) (hb : c.code = cc) (hK : gk_K D cl cA LW s) (hI : gk_I D cl cA b sz s w H locs cells) {a : Nat} {xs : List Int64} {i : Int32} {x : Int64} (ha : w[a]? = some (.inr (.inr xs))) (hin : vp_in i xs.length) (hd : decode cc pc = .ok (.lastore, 1))
    (kk : ∀ (H1 : Heap) (locs1 : List Loc), gk_I D cl cA b sz s (w.set a (.inr (.inr (xs.set i.toNatClampNeg x)))) H1 locs1 cells → W p l e R s m args below meth c H1 locs1 cells slots Q (F0 m (pc + 1) ls rest)) : W p l e R s m args below meth c H locs cells slots Q (F0 m pc ls (.long x :: .int i :: .ref (sz + a) :: rest)) := by
  refine va_last (f := fun j => xs.getD j 0) (n := xs.length) (cA := cA 3) hx hb hK.1 hI.1 (gk_w_D b sz cA w) hI.2.1 a 3 (gk_w_at ha) rfl hin hd fun H1 locs1 hP _ hS => gk_back hI ha ?_ hP hS (kk H1 locs1)
  show Sum.inl (cA 3, xs.length, Sum.inr (Sum.inl _)) = Sum.inl (cA 3, (xs.set i.toNatClampNeg x).length, Sum.inr (Sum.inl _))
  rw [gk_updL xs _ x (gk_in_lt hin), List.length_set]
theorem gk_alen (hx : p.tables.exec = Jvm.exec) (hb : c.code = cc) (hK : gk_K D cl cA LW s) (hI : gk_I D cl cA b sz s w H locs cells) {a t : Nat} {xs : List Int32} (ht : t < 3) (ha : w[a]? = some (.inr (.inl (t, xs)))) (hd : decode cc pc = .ok (.arraylength, 1))
    (kk : W p l e R s m args below meth c H locs cells slots Q (F0 m (pc + 1) ls (.int (Int32.ofNat xs.length) :: rest))) : W p l e R s m args below meth c H locs cells slots Q (F0 m pc ls (.ref (sz + a) :: rest)) := by
  have h3 : ∃ ty, (gk_tys cA)[t]? = some (cA t, ty) := by
    rcases (show t = 0 ∨ t = 1 ∨ t = 2 by omega) with rfl | rfl | rfl <;> exact ⟨_, rfl⟩
  obtain ⟨ty, hty⟩ := h3
  exact va_alen (x := (xs.length, .inl (fun j => xs.getD j 0))) (cA := cA t) hx hb hK.1 hI.1 a t (gk_w_at ha) hty rfl hd kk
/-- a new cell lies behind all others -/
theorem gk_new_q {q : Nat} {x : va_E} (hD : va_D (fun q => sz ≤ q) (gk_w b sz cA w ++ [(q, x)])) : sz + w.length ≤ q := by
  have hl : (gk_w b sz cA w).length = w.length := by simp [gk_w]
  have hlast : (gk_w b sz cA w ++ [(q, x)])[w.length]? = some (q, x) := by
    rw [List.getElem?_append_right (by omega), hl, Nat.sub_self]; rfl
  have hge : sz ≤ q := hD.2 w.length (q, x) hlast
  refine Nat.not_lt.mp fun hlt => ?_
  have h1 : w[q - sz]? = some (w[q - sz]'(by omega)) := List.getElem?_eq_getElem (by omega)
  have h2 : (gk_w b sz cA w ++ [(q, x)])[q - sz]? = some (sz + (q - sz), gk_e (gk_ad b sz) cA (w[q - sz]'(by omega))) := by
    rw [List.getElem?_append_left (by omega)]; exact gk_w_at h1
  have h3 := hD.1 (q - sz) w.length _ _ h2 hlast (by dsimp only; omega)
  omega
theorem gk_grown (hI : gk_I D cl cA b sz s w H locs cells) {g : Nat → JFrame} {q ns : Nat} {H1 : Heap} {x : va_E} {c1 : gk_AC} (hx : x = gk_e (gk_ad b sz) cA c1) (hP : va_P D cl (gk_w b sz cA w ++ [(q, x)]) H1) (hD : va_D (fun q => sz ≤ q) (gk_w b sz cA w ++ [(q, x)])) (hS : va_S (fun q => sz ≤ q) s.heap H1 locs)
    (kk : gk_I D cl cA b sz s (w ++ [c1]) H1 locs (cells + 1) → W p l e R s m args below meth c H1 locs (cells + 1) ns Q (g (sz + w.length))) : W p l e R s m args below meth c H1 locs (cells + 1) ns Q (g q) := by
  subst hx
  have hq := gk_new_q hD
  have hl : (gk_w b sz cA w).length = w.length := by simp [gk_w]
  have hlast : (gk_w b sz cA w ++ [(q, gk_e (gk_ad b sz) cA c1)])[w.length]? = some (q, gk_e (gk_ad b sz) cA c1) := by
    rw [List.getElem?_append_right (by omega), hl, Nat.sub_self]; rfl
  have hlt : q < H1.size := (hP w.length _ hlast).lt
  have h4 := hI.2.2.2.1
  refine gk_exact (n := sz + w.length + 1) (by omega) (by omega) fun hz => ?_
  have hqe : q = sz + w.length := by omega
  subst hqe
  rw [gk_w_push] at hP
  exact kk ⟨hP, hS, by simp; omega, by simp; omega, hI.2.2.2.2⟩
theorem gk_newc (hx : p.tables.exec = Jvm.exec) (hb : c.code = cc) (hK : gk_K D cl cA LW s) (hC : gk_Cl cl LW fty) (hown : s.vm.findClass own = some m.cls) (hI : gk_I D cl cA b sz s w H locs cells) {ci idx : Nat} {C : String} {T : u_T} {N : Nat} {fs : List Value}
    (hc : cl[ci]? = some (C, T, N)) (h1 : Cond.classLink own idx C ∈ LW) (h2 : Cond.instantiable C N ∈ LW) (h3 : Cond.initialized C ∈ LW) (hfs : ∀ j, j < N → defaultValue (fty ci j) = vp_V fs j) (hfv : fs.map (gk_v (gk_ad b sz)) = fs) (hcells : cells + 1 ≤ R.cells) (hslots : slots + N ≤ R.slots) (hd : decode cc pc = .ok (.new idx, 3))
    (kk : ∀ H1 : Heap, gk_I D cl cA b sz s (w ++ [.inl (ci, fs)]) H1 locs (cells + 1) → W p l e R s m args below meth c H1 locs (cells + 1) (slots + N) Q (F0 m (pc + 3) ls (.ref (sz + w.length) :: rest))) : W p l e R s m args below meth c H locs cells slots Q (F0 m pc ls rest) := by
  obtain ⟨hC1, hC2, hC3⟩ := hC ci C T N hc
  refine va_new (Ts := LW) (fs := fs) hx hb (fun w hw => hK.2 w hw args) hC1 (fty ci) hC2 hown (hK.2 _ h1 args) (hK.2 _ h2 args) (hK.2 _ h3 args) hK.1 hI.1 (gk_w_D b sz cA w) hI.2.1 (fun q hq => Nat.le_trans hI.2.2.2.2 hq) hc hfs hcells hslots hd fun q H1 hP hD hS => ?_
  refine gk_grown (c1 := .inl (ci, fs)) (g := fun q => F0 m (pc + 3) ls (.ref q :: rest)) hI ?_ hP hD hS (kk H1)
  show Sum.inr (ci, fs) = Sum.inr (ci, fs.map (gk_v (gk_ad b sz)))
  rw [hfv]
theorem gk_newi (hx : p.tables.exec = Jvm.exec) (hb : c.code = cc) (hK : gk_K D cl cA LW s) (hI : gk_I D cl cA b sz s w H locs cells) {t N : Nat} {n : Int32} {atype : ArrayType} (hty : newarray.typeOf atype = gk_ty t) (ht : t < 3) (harr : Cond.arrayClass (gk_ty t) ∈ LW) (hn : ¬ n < 0) (hN : n.toNatClampNeg = N) (hby : N ≤ 60000) (hcells : cells + 1 ≤ R.cells) (hslots : slots + N ≤ R.slots) (hd : decode cc pc = .ok (.newarray atype, 2))
    (kk : ∀ H1 : Heap, gk_I D cl cA b sz s (w ++ [.inr (.inl (t, List.replicate N 0))]) H1 locs (cells + 1) → W p l e R s m args below meth c H1 locs (cells + 1) (slots + N) Q (F0 m (pc + 2) ls (.ref (sz + w.length) :: rest))) : W p l e R s m args below meth c H locs cells slots Q (F0 m pc ls (.int n :: rest)) := by
  have hat : t = 0 ∨ t = 1 ∨ t = 2 := by omega
  have hdf : defaultValue (gk_ty t) = .int 0 := by rcases hat with rfl | rfl | rfl <;> rfl
  have hcb : componentBytes (gk_ty t) ≤ 8 := by rcases hat with rfl | rfl | rfl <;> decide
  refine va_newa (a0 := (N, .inl (fun _ => 0))) (N' := N) hx hb (by rw [hty]; exact hK.2 _ harr args) hty hK.1 hI.1 (gk_w_D b sz cA w) hI.2.1 (fun q hq => Nat.le_trans hI.2.2.2.2 hq) (fun cZ => by rw [hdf]; rfl) hn hN (Nat.le_trans (Nat.mul_le_mul hby hcb) (by decide)) hcells hslots hd fun q cZ H1 hK1 hP hD hS => ?_
  have hcA : cZ = cA t := by
    have h1 := (hK1.2 4 (cZ, gk_ty t) rfl).2
    have h2 : va_RA s (cA t) (gk_ty t) := by
      rcases hat with rfl | rfl | rfl
      · exact (hK.1.2 0 _ rfl).2
      · exact (hK.1.2 1 _ rfl).2
      · exact (hK.1.2 2 _ rfl).2
    rcases hat with rfl | rfl | rfl <;> exact Option.some.inj ((show s.vm.findClass _ = some cZ from h1).symm.trans (show s.vm.findClass _ = some _ from h2))
  subst hcA
  refine gk_grown (c1 := .inr (.inl (t, List.replicate N 0))) (g := fun q => F0 m (pc + 2) ls (.ref q :: rest)) hI ?_ hP hD hS (kk H1)
  show Sum.inl (cA t, N, Sum.inl _) = Sum.inl (cA t, (List.replicate N (0 : Int32)).length, Sum.inl (fun j => (List.replicate N (0 : Int32)).getD j 0))
  rw [gk_rep, List.length_replicate]
theorem gk_newl (hx : p.tables.exec = Jvm.exec) (hb : c.code = cc) (hK : gk_K D cl cA LW s) (hI : gk_I D cl cA b sz s w H locs cells) {N : Nat} {n : Int32} {atype : ArrayType} (hty : newarray.typeOf atype = .long) (harr : Cond.arrayClass .long ∈ LW) (hn : ¬ n < 0) (hN : n.toNatClampNeg = N) (hby : N ≤ 60000) (hcells : cells + 1 ≤ R.cells) (hslots : slots + N ≤ R.slots) (hd : decode cc pc = .ok (.newarray atype, 2))
    (kk : ∀ H1 : Heap, gk_I D cl cA b sz s (w ++ [.inr (.inr (List.replicate N 0))]) H1 locs (cells + 1) → W p l e R s m args below meth c H1 locs (cells + 1) (slots + N) Q (F0 m (pc + 2) ls (.ref (sz + w.length) :: rest))) : W p l e R s m args below meth c H locs cells slots Q (F0 m pc ls (.int n :: rest)) := by
  have hcb : componentBytes .long ≤ 8 := by decide
  refine va_newa (a0 := (N, .inr (.inl (fun _ => 0)))) (N' := N) hx hb (by rw [hty]; exact hK.2 _ harr args) hty hK.1 hI.1 (gk_w_D b sz cA w) hI.2.1 (fun q hq => Nat.le_trans hI.2.2.2.2 hq) (fun cZ => rfl) hn hN (Nat.le_trans (Nat.mul_le_mul hby hcb) (by decide)) hcells hslots hd fun q cZ H1 hK1 hP hD hS => ?_
  have hcA : cZ = cA 3 := by
    have h1 := (hK1.2 4 (cZ, .long) rfl).2
    have h2 := (hK.1.2 3 _ rfl).2
    exact Option.some.inj ((show s.vm.findClass _ = some cZ from h1).symm.trans (show s.vm.findClass _ = some _ from h2))
  subst hcA
  refine gk_grown (c1 := .inr (.inr (List.replicate N 0))) (g := fun q => F0 m (pc + 2) ls (.ref q :: rest)) hI ?_ hP hD hS (kk H1)
  show Sum.inl (cA 3, N, Sum.inr (Sum.inl _)) = Sum.inl (cA 3, (List.replicate N (0 : Int64)).length, Sum.inr (Sum.inl (fun j => (List.replicate N (0 : Int64)).getD j 0)))
  rw [gk_repL, List.length_replicate]
theorem gk_copy (hx : p.tables.exec = Jvm.exec) (hb : c.code = cc) (hml : c.maxLocals = ls.size) (hK : gk_K D cl cA LW s) (hown : s.vm.findClass own = some m.cls) (hI : gk_I D cl cA b sz s w H locs cells) {a0 a1 idx : Nat} {f g : List Int64} {sp dp n : Int32}
    (h1 : Cond.methodLink own idx arraycopyName ∈ LW) (h2 : Cond.native arraycopyName ∈ LW) (h3 : Cond.static arraycopyName ∈ LW) (h4 : Cond.initialized "java/lang/System" ∈ LW) (ha0 : w[a0]? = some (.inr (.inr f))) (ha1 : w[a1]? = some (.inr (.inr g)))
    (n1 : ¬ sp < 0) (n2 : ¬ dp < 0) (n3 : ¬ n < 0) (m1 : sp.toNatClampNeg + n.toNatClampNeg ≤ f.length) (m2 : dp.toNatClampNeg + n.toNatClampNeg ≤ g.length) (hfr : 1 ≤ R.frames) (hlo : (rest.map fun v => v.category).sum + 18 ≤ R.locals) (hd : decode cc pc = .ok (.invokestatic idx, 3))
    (kk : ∀ (H1 : Heap) (locs1 : List Loc), gk_I D cl cA b sz s (w.set a1 (.inr (.inr (gk_cpy f g sp.toNatClampNeg dp.toNatClampNeg n.toNatClampNeg)))) H1 locs1 cells → W p l e R s m args below meth c H1 locs1 cells slots Q (F0 m (pc + 3) ls rest)) : W p l e R s m args below meth c H locs cells slots Q (F0 m pc ls (.int n :: .int dp :: .ref (sz + a1) :: .int sp :: .ref (sz + a0) :: rest)) := by
  refine va_copyl (f := fun j => f.getD j 0) (g := fun j => g.getD j 0) (n0 := f.length) (n1 := g.length) (c0 := cA 3) (c1 := cA 3) (ty := .long) hx hb hml hown (hK.2 _ h1 args) (hK.2 _ h2 args) (hK.2 _ h3 args) (hK.2 _ h4 args) hK.1 hI.1 (gk_w_D b sz cA w) hI.2.1 a0 a1 3 3 (gk_w_at ha0) (gk_w_at ha1) rfl rfl rfl n1 n2 n3 m1 m2 (fun _ _ => rfl) hfr (by simpa [nativeFrameWords] using hlo) hd fun H1 locs1 hP _ hS => gk_back hI ha1 ?_ hP hS (kk H1 locs1)
  show Sum.inl (cA 3, g.length, Sum.inr (Sum.inl _)) = Sum.inl (cA 3, (gk_cpy f g sp.toNatClampNeg dp.toNatClampNeg n.toNatClampNeg).length, Sum.inr (Sum.inl _))
  rw [gk_cpy_fun f g _ _ _ m1 m2, gk_cpy_len f g _ _ _ m1 m2]
end GK4
