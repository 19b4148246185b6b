/-! part 7: the heap instructions are what gk_heap says of them, where the tables are true of the program -/
def gk_TF (P : gk_Pg) (yn : Nat → MethodName) (cl : List vw_C) (LW : List Cond) : Prop := ∀ mi idx ci k : Nat, gk_fld P mi idx = some (ci, k) → ∃ (C : String) (T : u_T) (N : Nat), cl[ci]? = some (C, T, N) ∧ k < N ∧ (Cond.fieldLink (yn mi).cls idx (T k).1 (T k).2.1 (T k).2.2.1 ∈ LW ∨ ∃ host, Cond.fieldLinkNest (yn mi).cls idx (T k).1 (T k).2.1 (T k).2.2.1 host ∈ LW)
def gk_TP (P : gk_Pg) (yn : Nat → MethodName) (cl : List vw_C) (LW : List Cond) : Prop := ∀ mi idx ci k : Nat, gk_pfl P mi idx = some (ci, k) → ∃ (C : String) (T : u_T) (N : Nat), cl[ci]? = some (C, T, N) ∧ k < N ∧ (((T k).2.2.2 = false ∧ (Cond.fieldLink (yn mi).cls idx (T k).1 (T k).2.1 (T k).2.2.1 ∈ LW ∨ ∃ host, Cond.fieldLinkNest (yn mi).cls idx (T k).1 (T k).2.1 (T k).2.2.1 host ∈ LW)) ∨ ((T k).2.2.2 = true ∧ (yn mi).name = "<init>" ∧ (T k).1 = (yn mi).cls ∧ Cond.fieldLink (yn mi).cls idx (T k).1 (T k).2.1 (T k).2.2.1 ∈ LW))
def gk_TN (P : gk_Pg) (yn : Nat → MethodName) (cl : List vw_C) (LW : List Cond) : Prop := ∀ mi idx ci : Nat, gk_nwc P mi idx = some ci → ∃ (C : String) (T : u_T) (N : Nat), cl[ci]? = some (C, T, N) ∧ Cond.classLink (yn mi).cls idx C ∈ LW ∧ Cond.instantiable C N ∈ LW ∧ Cond.initialized C ∈ LW ∧ gk_nsl P ci = N ∧ (∀ j, j < N → defaultValue (gk_fty P ci j) = vp_V (gk_dfl P ci) j) ∧ ∀ ad : Nat → Nat, (gk_dfl P ci).map (gk_v ad) = gk_dfl P ci
def gk_TC (P : gk_Pg) (yn : Nat → MethodName) (LW : List Cond) : Prop := ∀ (mi idx : Nat) (v : Value), gk_cst P mi idx = some v → (∃ x : Int32, v = .int x ∧ Cond.constant (yn mi).cls idx x ∈ LW) ∨ ∃ x : Int64, v = .long x ∧ Cond.constantLong (yn mi).cls idx x ∈ LW
def gk_TX (P : gk_Pg) (yn : Nat → MethodName) (LW : List Cond) : Prop := ∀ mi idx x y z : Nat, (gk_mth P mi idx = some (3, x, y, z) → Cond.methodLink (yn mi).cls idx Lib.objectInit ∈ LW ∧ Cond.instanceMethod Lib.objectInit ∈ LW ∧ Cond.code Lib.objectInit ⟨#[0xb1]⟩ 1 none ∈ LW) ∧
  (gk_mth P mi idx = some (4, x, y, z) → Cond.methodLink (yn mi).cls idx arraycopyName ∈ LW ∧ Cond.native arraycopyName ∈ LW ∧ Cond.static arraycopyName ∈ LW ∧ Cond.initialized "java/lang/System" ∈ LW) ∧
  (gk_mth P mi idx = some (5, x, y, z) → Cond.methodLink (yn mi).cls idx Lib.MathLoose.min_long.x ∈ LW ∧ Cond.static Lib.MathLoose.min_long.x ∈ LW ∧ Cond.initialized "java/lang/Math" ∈ LW ∧ Cond.code Lib.MathLoose.min_long.x Lib.MathLoose.min_long.code 4 (some .long) ∈ LW)
def gk_TT (P : gk_Pg) (yn : Nat → MethodName) (cl : List vw_C) (LW : List Cond) : Prop := gk_Cl cl LW (gk_fty P) ∧ gk_TF P yn cl LW ∧ gk_TP P yn cl LW ∧ gk_TN P yn cl LW ∧ gk_TC P yn LW ∧ (∀ t, t < 4 → Cond.arrayClass (gk_ty t) ∈ LW) ∧ gk_TX P yn LW
theorem gk_fits_v (ad : Nat → Nat) (ty : FieldType) (v : Value) : fits ty (gk_v ad v) = fits ty v := by cases v <;> cases ty <;> rfl
theorem gk_cat_v (ad : Nat → Nat) (st : List Value) : ((gk_vs ad st).map fun v => v.category).sum = gk_cat st := by
  unfold gk_vs gk_cat
  rw [List.map_map]
  congr 1
  apply List.map_congr_left
  intro v _
  exact gk_v_cat ad v
section GK7
variable {p : Program} {l : Launch} {e : Env} {R : Room} {s : State} {m : MethodId} {args : Array Value} {below : List Frame} {meth : Method} {c : Code} {H : Heap} {locs : List Loc} {cells slots : Nat} {Q : State → Prop}
variable {cc : ByteArray} {pc : Nat} {ls : Array Slot} {D : va_G} {cl : List vw_C} {cA : Nat → ClassId} {b sz : Nat} {w : gk_Wd} {LW : List Cond} {P : gk_Pg} {yn : Nat → MethodName} {mi : Nat} {scr : Option (List Int32)}
set_option maxHeartbeats 4000000 in
theorem gk_heap_ok (hT : gk_TT P yn cl LW) (hx : p.tables.exec = Jvm.exec) (hb : c.code = cc) (hml : c.maxLocals = ls.size) (hK : gk_K D cl cA LW s) (hown : s.vm.findClass (yn mi).cls = some m.cls) (hnm : meth.name = (yn mi).name) (hX : ∀ xs, scr = some xs → va_X b xs.length (fun j => xs.getD j 0) s s.heap) (hbz : b < sz)
    (hI : gk_I D cl cA b sz s w H locs cells) (hfr : 1 ≤ R.frames) (hlo : 40 ≤ R.locals) {i : Instr} {len : Nat} (hd : decode cc pc = .ok (i, len)) (hlen : gk_len i = 0 ∨ len = gk_len i) {st st' : List Value} {w' : gk_Wd} (h : gk_heap P scr mi w st i = some (st', w'))
    (hmc : cells + w'.length ≤ R.cells + w.length) (hms : slots + gk_sl (gk_nsl P) w' ≤ R.slots + gk_sl (gk_nsl P) w)
    (kk : ∀ (H1 : Heap) (locs1 : List Loc) (cells1 slots1 : Nat), cells1 + w.length = cells + w'.length → slots1 + gk_sl (gk_nsl P) w = slots + gk_sl (gk_nsl P) w' → gk_I D cl cA b sz s w' H1 locs1 cells1 → W p l e R s m args below meth c H1 locs1 cells1 slots1 Q (F0 m (pc + gk_len i) ls (gk_vs (gk_ad b sz) st'))) :
    W p l e R s m args below meth c H locs cells slots Q (F0 m pc ls (gk_vs (gk_ad b sz) st)) := by
  obtain ⟨hC, hTF, hTP, hTN, hTC, hTA, hTX⟩ := hT
  have hbA : ¬ (fun q => sz ≤ q) b := fun z => absurd hbz (Nat.not_lt.mpr z)
  have hbs : b < s.heap.size := Nat.lt_of_lt_of_le hbz hI.2.2.2.2
  cases i with
  | getfield k =>
    obtain rfl : len = 3 := by simpa [gk_len] using hlen
    obtain ⟨ci, k, a, r, fs, v, ho, rfl, hw, hv, hq⟩ := gk_hget_inv h
    cases hq
    obtain ⟨C, T, N, hc, hk, hl⟩ := hTF mi _ ci k ho
    exact gk_getf (rest := gk_vs (gk_ad b sz) r) hx hb hK hC hown hI hw hc hk hl hv hd (kk H locs cells slots rfl rfl hI)
  | putfield k =>
    obtain rfl : len = 3 := by simpa [gk_len] using hlen
    obtain ⟨ci, k, a, r, fs, v, ho, rfl, hw, hk1, hf, hq⟩ := gk_hput_inv h
    cases hq
    obtain ⟨C, T, N, hc, hk, hl⟩ := hTP mi _ ci k ho
    exact gk_putf (rest := gk_vs (gk_ad b sz) st') (v := v) hx hb hK hC hown hI hw hc hk (hl.imp (fun z => z) (fun z => ⟨z.1, hnm.trans z.2.1, z.2.2.1, z.2.2.2⟩)) hk1 (by rw [gk_fits_v]; exact hf) hd (fun H1 locs1 hI1 => kk H1 locs1 cells slots (by simp) (by rw [gk_sl_set (c1 := .inl (ci, fs.set k v)) hw rfl]) hI1)
  | iaload =>
    obtain rfl : len = 1 := by simpa [gk_len] using hlen
    rcases gk_hald_inv h with ⟨i, r, xs, hsc, -, rfl, hi, hq⟩ | ⟨i, a, r, xs, rfl, hw, hi, hq⟩
    · cases hq
      exact va_sld (A := fun q => sz ≤ q) (rest := gk_vs (gk_ad b sz) r) hx hb (hX xs hsc) hbs hbA hI.2.1 hi hd (kk H locs cells slots rfl rfl hI)
    · cases hq
      exact gk_iald (rest := gk_vs (gk_ad b sz) r) hx hb hK hI hw hi hd (kk H locs cells slots rfl rfl hI)
  | caload =>
    obtain rfl : len = 1 := by simpa [gk_len] using hlen
    rcases gk_hald_inv h with ⟨i, r, xs, -, h0, -⟩ | ⟨i, a, r, xs, rfl, hw, hi, hq⟩
    · cases h0
    · cases hq
      exact gk_cald (rest := gk_vs (gk_ad b sz) r) hx hb hK hI hw hi hd (kk H locs cells slots rfl rfl hI)
  | baload =>
    obtain rfl : len = 1 := by simpa [gk_len] using hlen
    rcases gk_hald_inv h with ⟨i, r, xs, -, h0, -⟩ | ⟨i, a, r, xs, rfl, hw, hi, hq⟩
    · cases h0
    · cases hq
      exact gk_zald (rest := gk_vs (gk_ad b sz) r) hx hb hK hI hw hi hd (kk H locs cells slots rfl rfl hI)
  | laload =>
    obtain rfl : len = 1 := by simpa [gk_len] using hlen
    obtain ⟨i, a, r, xs, rfl, hw, hi, hq⟩ := gk_hlld_inv h
    cases hq
    exact gk_lald (rest := gk_vs (gk_ad b sz) r) hx hb hK hI hw hi hd (kk H locs cells slots rfl rfl hI)
  | iastore =>
    obtain rfl : len = 1 := by simpa [gk_len] using hlen
    obtain ⟨x, i, a, r, xs, rfl, hw, hi, hf, hq⟩ := gk_hast_inv h
    cases hq
    exact gk_iast (rest := gk_vs (gk_ad b sz) st') hx hb hK hI hw hi hd (fun H1 locs1 hI1 => kk H1 locs1 cells slots (by simp) (by rw [gk_sl_set hw (by simp [gk_cs])]) hI1)
  | castore =>
    obtain rfl : len = 1 := by simpa [gk_len] using hlen
    obtain ⟨x, i, a, r, xs, rfl, hw, hi, hf, hq⟩ := gk_hast_inv h
    cases hq
    exact gk_cast (rest := gk_vs (gk_ad b sz) st') hx hb hK hI hw hi hf hd (fun H1 locs1 hI1 => kk H1 locs1 cells slots (by simp) (by rw [gk_sl_set hw (by simp [gk_cs])]) hI1)
  | bastore =>
    obtain rfl : len = 1 := by simpa [gk_len] using hlen
    obtain ⟨x, i, a, r, xs, rfl, hw, hi, hf, hq⟩ := gk_hast_inv h
    cases hq
    exact gk_zast (rest := gk_vs (gk_ad b sz) st') hx hb hK hI hw hi hf hd (fun H1 locs1 hI1 => kk H1 locs1 cells slots (by simp) (by rw [gk_sl_set hw (by simp [gk_cs])]) hI1)
  | lastore =>
    obtain rfl : len = 1 := by simpa [gk_len] using hlen
    obtain ⟨x, i, a, r, xs, rfl, hw, hi, hq⟩ := gk_hlst_inv h
    cases hq
    exact gk_last (rest := gk_vs (gk_ad b sz) st') hx hb hK hI hw hi hd (fun H1 locs1 hI1 => kk H1 locs1 cells slots (by simp) (by rw [gk_sl_set hw (by simp [gk_cs])]) hI1)
  | arraylength =>
    obtain rfl : len = 1 := by simpa [gk_len] using hlen
    rcases gk_hlen_inv h with ⟨r, xs, hsc, rfl, hq⟩ | ⟨a, t, r, xs, rfl, hw, ht, hq⟩
    · cases hq
      exact va_slen (A := fun q => sz ≤ q) (rest := gk_vs (gk_ad b sz) r) hx hb (hX xs hsc) hbs hbA hI.2.1 hd (kk H locs cells slots rfl rfl hI)
    · cases hq
      exact gk_alen (rest := gk_vs (gk_ad b sz) r) hx hb hK hI ht hw hd (kk H locs cells slots rfl rfl hI)
  | new k =>
    obtain rfl : len = 3 := by simpa [gk_len] using hlen
    obtain ⟨ci, ho, hq⟩ := gk_hnew_inv h
    cases hq
    obtain ⟨C, T, N, hc, h1, h2, h3, h4, h5, h6⟩ := hTN mi _ ci ho
    have e1 : gk_sl (gk_nsl P) (w ++ [.inl (ci, gk_dfl P ci)]) = gk_sl (gk_nsl P) w + N := by rw [gk_sl_push]; simp [gk_cs, h4]
    rw [e1] at hms
    rw [List.length_append, List.length_singleton] at hmc
    exact gk_newc hx hb hK hC hown hI hc h1 h2 h3 h5 (h6 _) (by omega) (by omega) hd (fun H1 hI1 => kk H1 locs (cells + 1) (slots + N) (by rw [List.length_append, List.length_singleton]; omega) (by rw [e1]; omega) hI1)
  | newarray ty =>
    obtain rfl : len = 2 := by simpa [gk_len] using hlen
    obtain ⟨n, r, rfl, hn, hN, ⟨t, ht, hty, hq⟩ | ⟨hty, hq⟩⟩ := gk_harr_inv h
    · cases hq
      have e1 : gk_sl (gk_nsl P) (w ++ [.inr (.inl (t, List.replicate n.toNatClampNeg 0))]) = gk_sl (gk_nsl P) w + n.toNatClampNeg := by rw [gk_sl_push]; simp [gk_cs]
      rw [e1] at hms
      rw [List.length_append, List.length_singleton] at hmc
      exact gk_newi (rest := gk_vs (gk_ad b sz) r) hx hb hK hI hty ht (hTA t (by omega)) hn rfl hN (by omega) (by omega) hd (fun H1 hI1 => kk H1 locs (cells + 1) (slots + n.toNatClampNeg) (by rw [List.length_append, List.length_singleton]; omega) (by rw [e1]; omega) hI1)
    · cases hq
      have e1 : gk_sl (gk_nsl P) (w ++ [.inr (.inr (List.replicate n.toNatClampNeg 0))]) = gk_sl (gk_nsl P) w + n.toNatClampNeg := by rw [gk_sl_push]; simp [gk_cs]
      rw [e1] at hms
      rw [List.length_append, List.length_singleton] at hmc
      exact gk_newl (rest := gk_vs (gk_ad b sz) r) hx hb hK hI hty (hTA 3 (by decide)) hn rfl hN (by omega) (by omega) hd (fun H1 hI1 => kk H1 locs (cells + 1) (slots + n.toNatClampNeg) (by rw [List.length_append, List.length_singleton]; omega) (by rw [e1]; omega) hI1)
  | ldc k =>
    obtain rfl : len = 2 := by simpa [gk_len] using hlen
    obtain ⟨x, ho, hq⟩ := gk_hldi_inv h
    cases hq
    rcases hTC mi _ _ ho with ⟨y, hy, hm⟩ | ⟨y, hy, hm⟩
    · cases hy
      exact lv_ldc hx hb hown (hK.2 _ hm args) hd (kk H locs cells slots rfl rfl hI)
    · cases hy
  | ldc_w k =>
    obtain rfl : len = 3 := by simpa [gk_len] using hlen
    obtain ⟨x, ho, hq⟩ := gk_hldi_inv h
    cases hq
    rcases hTC mi _ _ ho with ⟨y, hy, hm⟩ | ⟨y, hy, hm⟩
    · cases hy
      exact lv_ldcw hx hb hown (hK.2 _ hm args) hd (kk H locs cells slots rfl rfl hI)
    · cases hy
  | ldc2_w k =>
    obtain rfl : len = 3 := by simpa [gk_len] using hlen
    obtain ⟨x, ho, hq⟩ := gk_hldl_inv h
    cases hq
    rcases hTC mi _ _ ho with ⟨y, hy, hm⟩ | ⟨y, hy, hm⟩
    · cases hy
    · cases hy
      exact lv_ldc2 hx hb hown (hK.2 _ hm args) hd (kk H locs cells slots rfl rfl hI)
  | invokespecial k =>
    obtain rfl : len = 3 := by simpa [gk_len] using hlen
    obtain ⟨⟨x, y, z, hm⟩, h⟩ := gk_spec_inv h
    obtain ⟨a, r, rfl, hr, hq⟩ := gk_hobj_inv h
    cases hq
    obtain ⟨h1, h2, h3⟩ := (hTX mi _ x y z).1 hm
    have hr' := hr
    rw [← gk_cat_v (gk_ad b sz)] at hr'
    exact W.objInit (a := gk_ad b sz a) (rest := gk_vs (gk_ad b sz) st') hx hb hown (hK.2 _ h1 args) (hK.2 _ h2 args) (hK.2 _ h3 args) rfl hml.symm rfl hd hfr (by show 2 * 0 + _ + 12 ≤ _; omega) (kk H locs cells slots rfl rfl hI)
  | invokestatic k =>
    obtain rfl : len = 3 := by simpa [gk_len] using hlen
    rcases gk_stat_inv h with ⟨⟨x, y, z, hm⟩, h⟩ | ⟨⟨x, y, z, hm⟩, h⟩
    · obtain ⟨n, dp, sp, a1, a0, r, f, g, rfl, h0, h1, ⟨c1, c2, c3, c4, c5, c6⟩, hq⟩ := gk_hcpy_inv h
      cases hq
      obtain ⟨g1, g2, g3, g4⟩ := (hTX mi _ x y z).2.1 hm
      have hr' := c6
      rw [← gk_cat_v (gk_ad b sz)] at hr'
      exact gk_copy (rest := gk_vs (gk_ad b sz) st') hx hb hml hK hown hI g1 g2 g3 g4 h0 h1 c1 c2 c3 c4 c5 hfr (by omega) hd (fun H1 locs1 hI1 => kk H1 locs1 cells slots (by simp) (by rw [gk_sl_set h1 (by simp only [gk_cs]; exact gk_cpy_len f g _ _ _ c4 c5)]) hI1)
    · obtain ⟨x, y, r, rfl, hr, hq⟩ := gk_hmin_inv h
      cases hq
      obtain ⟨g1, g2, g3, g4⟩ := (hTX mi _ _ _ _).2.2 hm
      have hr' := hr
      rw [← gk_cat_v (gk_ad b sz)] at hr'
      exact va_mmin_long (x := x) (y := y) (rest := gk_vs (gk_ad b sz) r) hx hb hml hown (hK.2 _ g1 args) (hK.2 _ g2 args) (hK.2 _ g3 args) (hK.2 _ g4 args) hfr (by omega) (by omega) (by omega) hd (kk H locs cells slots rfl rfl hI)
  | _ => cases h
end GK7
