/-! part 6: what each heap instruction was, if the interpreter went on; the world only grows -/
def gk_cs (ns : Nat → Nat) (c : gk_AC) : Nat := match c with
  | .inl o => ns o.1
  | .inr (.inl a) => a.2.length
  | .inr (.inr a) => a.length
def gk_sl (ns : Nat → Nat) (w : gk_Wd) : Nat := (w.map (gk_cs ns)).sum
theorem gk_sl_set {ns : Nat → Nat} {w : gk_Wd} {a : Nat} {c c1 : gk_AC} (h : w[a]? = some c) (hc : gk_cs ns c1 = gk_cs ns c) : gk_sl ns (w.set a c1) = gk_sl ns w := by
  unfold gk_sl
  rw [List.map_set]
  congr 1
  apply List.ext_getElem?
  intro j
  rw [List.getElem?_set]
  by_cases hj : a = j
  · subst hj
    have hl : a < (w.map (gk_cs ns)).length := by rw [List.length_map]; exact (List.getElem?_eq_some_iff.mp h).1
    rw [if_pos rfl, if_pos hl, List.getElem?_map, h, hc]
    rfl
  · rw [if_neg hj]
theorem gk_sl_push {ns : Nat → Nat} {w : gk_Wd} {c : gk_AC} : gk_sl ns (w ++ [c]) = gk_sl ns w + gk_cs ns c := by
  simp [gk_sl]
theorem gk_hget_inv {o : Option (Nat × Nat)} {w : gk_Wd} {st : List Value} {q : List Value × gk_Wd} (h : gk_hget o w st = some q) : ∃ (ci k a : Nat) (r fs : List Value) (v : Value), o = some (ci, k) ∧ st = .ref (a + 1) :: r ∧ w[a]? = some (.inl (ci, fs)) ∧ fs[k]? = some v ∧ q = (v :: r, w) := by
  unfold gk_hget at h
  split at h
  · rename_i ci k a r
    split at h
    · rename_i cj fs hw
      split at h
      · rename_i he
        subst he
        split at h
        · rename_i v hv
          cases h
          exact ⟨_, k, a, r, fs, v, rfl, rfl, hw, hv, rfl⟩
        · cases h
      · cases h
    · cases h
  · cases h
theorem gk_hput_inv {o : Option (Nat × Nat)} {ft : Nat → Nat → FieldType} {w : gk_Wd} {st : List Value} {q : List Value × gk_Wd} (h : gk_hput o ft w st = some q) : ∃ (ci k a : Nat) (r fs : List Value) (v : Value), o = some (ci, k) ∧ st = v :: .ref (a + 1) :: r ∧ w[a]? = some (.inl (ci, fs)) ∧ k < fs.length ∧ fits (ft ci k) v = true ∧ q = (r, w.set a (.inl (ci, fs.set k v))) := by
  unfold gk_hput at h
  split at h
  · rename_i ci k v a r
    split at h
    · rename_i cj fs hw
      split at h
      · rename_i he
        obtain ⟨rfl, h1, h2⟩ := he
        cases h
        exact ⟨_, k, a, r, fs, v, rfl, rfl, hw, h1, h2, rfl⟩
      · cases h
    · cases h
  · cases h
theorem gk_out_in {i : Int32} {n : Nat} (h : gk_out i n = false) : vp_in i n := of_decide_eq_false h
theorem gk_hald_inv {t : Nat} {scr : Option (List Int32)} {w : gk_Wd} {st : List Value} {q : List Value × gk_Wd} (h : gk_hald t scr w st = some q) : (∃ (i : Int32) (r : List Value) (xs : List Int32), scr = some xs ∧ t = 0 ∧ st = .int i :: .ref 0 :: r ∧ vp_in i xs.length ∧ q = (.int (xs.getD i.toNatClampNeg 0) :: r, w)) ∨ ∃ (i : Int32) (a : Nat) (r : List Value) (xs : List Int32), st = .int i :: .ref (a + 1) :: r ∧ w[a]? = some (.inr (.inl (t, xs))) ∧ vp_in i xs.length ∧ q = (.int (xs.getD i.toNatClampNeg 0) :: r, w) := by
  unfold gk_hald at h
  split at h
  · rename_i i r
    split at h
    · rename_i xs
      split at h
      · rename_i he
        cases h
        exact Or.inl ⟨i, r, xs, rfl, he.1, rfl, gk_out_in he.2, rfl⟩
      · cases h
    · cases h
  · rename_i i a r
    split at h
    · rename_i u xs hw
      split at h
      · rename_i he
        obtain ⟨rfl, h2⟩ := he
        cases h
        exact Or.inr ⟨i, a, r, xs, rfl, hw, gk_out_in h2, rfl⟩
      · cases h
    · cases h
  · cases h
theorem gk_hlld_inv {w : gk_Wd} {st : List Value} {q : List Value × gk_Wd} (h : gk_hlld w st = some q) : ∃ (i : Int32) (a : Nat) (r : List Value) (xs : List Int64), st = .int i :: .ref (a + 1) :: r ∧ w[a]? = some (.inr (.inr xs)) ∧ vp_in i xs.length ∧ q = (.long (xs.getD i.toNatClampNeg 0) :: r, w) := by
  unfold gk_hlld at h
  split at h
  · rename_i i a r
    split at h
    · rename_i xs hw
      split at h
      · rename_i he
        cases h
        exact ⟨i, a, r, xs, rfl, hw, gk_out_in he, rfl⟩
      · cases h
    · cases h
  · cases h
theorem gk_hast_inv {t : Nat} {w : gk_Wd} {st : List Value} {q : List Value × gk_Wd} (h : gk_hast t w st = some q) : ∃ (x i : Int32) (a : Nat) (r : List Value) (xs : List Int32), st = .int x :: .int i :: .ref (a + 1) :: r ∧ w[a]? = some (.inr (.inl (t, xs))) ∧ vp_in i xs.length ∧ fits (gk_ty t) (.int x) = true ∧ q = (r, w.set a (.inr (.inl (t, xs.set i.toNatClampNeg x)))) := by
  unfold gk_hast at h
  split at h
  · rename_i x i a r
    split at h
    · rename_i u xs hw
      split at h
      · rename_i he
        obtain ⟨rfl, h2, h3⟩ := he
        cases h
        exact ⟨x, i, a, r, xs, rfl, hw, gk_out_in h2, h3, rfl⟩
      · cases h
    · cases h
  · cases h
theorem gk_hlst_inv {w : gk_Wd} {st : List Value} {q : List Value × gk_Wd} (h : gk_hlst w st = some q) : ∃ (x : Int64) (i : Int32) (a : Nat) (r : List Value) (xs : List Int64), st = .long x :: .int i :: .ref (a + 1) :: r ∧ w[a]? = some (.inr (.inr xs)) ∧ vp_in i xs.length ∧ q = (r, w.set a (.inr (.inr (xs.set i.toNatClampNeg x)))) := by
  unfold gk_hlst at h
  split at h
  · rename_i x i a r
    split at h
    · rename_i xs hw
      split at h
      · rename_i he
        cases h
        exact ⟨x, i, a, r, xs, rfl, hw, gk_out_in he, rfl⟩
      · cases h
    · cases h
  · cases h
theorem gk_hlen_inv {scr : Option (List Int32)} {w : gk_Wd} {st : List Value} {q : List Value × gk_Wd} (h : gk_hlen scr w st = some q) : (∃ (r : List Value) (xs : List Int32), scr = some xs ∧ st = .ref 0 :: r ∧ q = (.int (Int32.ofNat xs.length) :: r, w)) ∨ ∃ (a t : Nat) (r : List Value) (xs : List Int32), st = .ref (a + 1) :: r ∧ w[a]? = some (.inr (.inl (t, xs))) ∧ t < 3 ∧ q = (.int (Int32.ofNat xs.length) :: r, w) := by
  unfold gk_hlen at h
  split at h
  · split at h
    · cases h
      exact Or.inl ⟨_, _, rfl, rfl, rfl⟩
    · cases h
  · rename_i a r
    split at h
    · rename_i t xs hw
      split at h
      · rename_i ht
        cases h
        exact Or.inr ⟨a, t, r, xs, rfl, hw, ht, rfl⟩
      · cases h
    · cases h
  · cases h
theorem gk_hnew_inv {o : Option Nat} {df : Nat → List Value} {w : gk_Wd} {st : List Value} {q : List Value × gk_Wd} (h : gk_hnew o df w st = some q) : ∃ ci : Nat, o = some ci ∧ q = (.ref (w.length + 1) :: st, w ++ [.inl (ci, df ci)]) := by
  unfold gk_hnew at h
  split at h
  · cases h
    exact ⟨_, rfl, rfl⟩
  · cases h
theorem gk_harr_inv {ty : ArrayType} {w : gk_Wd} {st : List Value} {q : List Value × gk_Wd} (h : gk_harr ty w st = some q) : ∃ (n : Int32) (r : List Value), st = .int n :: r ∧ ¬ n < 0 ∧ n.toNatClampNeg ≤ 60000 ∧ ((∃ t : Nat, t < 3 ∧ newarray.typeOf ty = gk_ty t ∧ q = (.ref (w.length + 1) :: r, w ++ [.inr (.inl (t, List.replicate n.toNatClampNeg 0))])) ∨ (newarray.typeOf ty = .long ∧ q = (.ref (w.length + 1) :: r, w ++ [.inr (.inr (List.replicate n.toNatClampNeg 0))]))) := by
  unfold gk_harr at h
  split at h
  · rename_i n r
    split at h
    · cases h
    · rename_i hn
      have h1 : ¬ n < 0 := fun z => hn (Or.inl z)
      have h2 : n.toNatClampNeg ≤ 60000 := Nat.not_lt.mp fun z => hn (Or.inr z)
      split at h
      · cases h
        exact ⟨n, r, rfl, h1, h2, Or.inl ⟨0, by decide, rfl, rfl⟩⟩
      · cases h
        exact ⟨n, r, rfl, h1, h2, Or.inl ⟨1, by decide, rfl, rfl⟩⟩
      · cases h
        exact ⟨n, r, rfl, h1, h2, Or.inl ⟨2, by decide, rfl, rfl⟩⟩
      · cases h
        exact ⟨n, r, rfl, h1, h2, Or.inr ⟨rfl, rfl⟩⟩
      · cases h
  · cases h
theorem gk_hldi_inv {o : Option Value} {w : gk_Wd} {st : List Value} {q : List Value × gk_Wd} (h : gk_hldi o w st = some q) : ∃ x : Int32, o = some (.int x) ∧ q = (.int x :: st, w) := by
  unfold gk_hldi at h
  split at h
  · cases h
    exact ⟨_, rfl, rfl⟩
  · cases h
theorem gk_hldl_inv {o : Option Value} {w : gk_Wd} {st : List Value} {q : List Value × gk_Wd} (h : gk_hldl o w st = some q) : ∃ x : Int64, o = some (.long x) ∧ q = (.long x :: st, w) := by
  unfold gk_hldl at h
  split at h
  · cases h
    exact ⟨_, rfl, rfl⟩
  · cases h
theorem gk_hobj_inv {w : gk_Wd} {st : List Value} {q : List Value × gk_Wd} (h : gk_hobj w st = some q) : ∃ (a : Nat) (r : List Value), st = .ref a :: r ∧ gk_cat r ≤ 8 ∧ q = (r, w) := by
  unfold gk_hobj at h
  split at h
  · split at h
    · rename_i hr
      cases h
      exact ⟨_, _, rfl, hr, rfl⟩
    · cases h
  · cases h
theorem gk_hcpy_inv {w : gk_Wd} {st : List Value} {q : List Value × gk_Wd} (h : gk_hcpy w st = some q) : ∃ (n dp sp : Int32) (a1 a0 : Nat) (r : List Value) (f g : List Int64), st = .int n :: .int dp :: .ref (a1 + 1) :: .int sp :: .ref (a0 + 1) :: r ∧ w[a0]? = some (.inr (.inr f)) ∧ w[a1]? = some (.inr (.inr g)) ∧ (¬ sp < 0 ∧ ¬ dp < 0 ∧ ¬ n < 0 ∧ sp.toNatClampNeg + n.toNatClampNeg ≤ f.length ∧ dp.toNatClampNeg + n.toNatClampNeg ≤ g.length ∧ gk_cat r ≤ 8) ∧ q = (r, w.set a1 (.inr (.inr (gk_cpy f g sp.toNatClampNeg dp.toNatClampNeg n.toNatClampNeg)))) := by
  unfold gk_hcpy at h
  split at h
  · rename_i n dp a1 sp a0 r
    split at h
    · rename_i f g h0 h1
      split at h
      · rename_i hc
        cases h
        exact ⟨n, dp, sp, a1, a0, r, f, g, rfl, h0, h1, hc, rfl⟩
      · cases h
    · cases h
  · cases h
theorem gk_hmin_inv {w : gk_Wd} {st : List Value} {q : List Value × gk_Wd} (h : gk_hmin w st = some q) : ∃ (x y : Int64) (r : List Value), st = .long y :: .long x :: r ∧ gk_cat r ≤ 8 ∧ q = (.long (if y < x then y else x) :: r, w) := by
  unfold gk_hmin at h
  split at h
  · split at h
    · rename_i hr
      cases h
      exact ⟨_, _, _, rfl, hr, rfl⟩
    · cases h
  · cases h
/-- the three members of the library -/
theorem gk_spec_inv {P : gk_Pg} {scr : Option (List Int32)} {mi k : Nat} {w : gk_Wd} {st : List Value} {q : List Value × gk_Wd} (h : gk_heap P scr mi w st (.invokespecial k) = some q) : (∃ x y z : Nat, gk_mth P mi k = some (3, x, y, z)) ∧ gk_hobj w st = some q := by
  simp only [gk_heap] at h
  split at h
  · rename_i x y z hm
    exact ⟨⟨x, y, z, hm⟩, h⟩
  · cases h
theorem gk_stat_inv {P : gk_Pg} {scr : Option (List Int32)} {mi k : Nat} {w : gk_Wd} {st : List Value} {q : List Value × gk_Wd} (h : gk_heap P scr mi w st (.invokestatic k) = some q) : ((∃ x y z : Nat, gk_mth P mi k = some (4, x, y, z)) ∧ gk_hcpy w st = some q) ∨ ((∃ x y z : Nat, gk_mth P mi k = some (5, x, y, z)) ∧ gk_hmin w st = some q) := by
  simp only [gk_heap] at h
  split at h
  · rename_i x y z hm
    exact Or.inl ⟨⟨x, y, z, hm⟩, h⟩
  · rename_i x y z hm
    exact Or.inr ⟨⟨x, y, z, hm⟩, h⟩
  · cases h
theorem gk_heap_mono {P : gk_Pg} {scr : Option (List Int32)} {mi : Nat} {w : gk_Wd} {st : List Value} {i : Instr} {q : List Value × gk_Wd} (h : gk_heap P scr mi w st i = some q) : w.length ≤ q.2.length ∧ gk_sl (gk_nsl P) w ≤ gk_sl (gk_nsl P) q.2 := by
  cases i with
  | getfield k =>
    obtain ⟨ci, k, a, r, fs, v, -, -, -, -, rfl⟩ := gk_hget_inv h
    exact ⟨Nat.le_refl _, Nat.le_refl _⟩
  | putfield k =>
    obtain ⟨ci, k, a, r, fs, v, -, -, hw, -, -, rfl⟩ := gk_hput_inv h
    exact ⟨by simp, Nat.le_of_eq (gk_sl_set (c1 := .inl (ci, fs.set k v)) hw rfl).symm⟩
  | iaload =>
    rcases gk_hald_inv h with ⟨i, r, xs, -, -, -, -, rfl⟩ | ⟨i, a, r, xs, -, -, -, rfl⟩ <;> exact ⟨Nat.le_refl _, Nat.le_refl _⟩
  | caload =>
    rcases gk_hald_inv h with ⟨i, r, xs, -, -, -, -, rfl⟩ | ⟨i, a, r, xs, -, -, -, rfl⟩ <;> exact ⟨Nat.le_refl _, Nat.le_refl _⟩
  | baload =>
    rcases gk_hald_inv h with ⟨i, r, xs, -, -, -, -, rfl⟩ | ⟨i, a, r, xs, -, -, -, rfl⟩ <;> exact ⟨Nat.le_refl _, Nat.le_refl _⟩
  | laload =>
    obtain ⟨i, a, r, xs, -, -, -, rfl⟩ := gk_hlld_inv h
    exact ⟨Nat.le_refl _, Nat.le_refl _⟩
  | iastore =>
    obtain ⟨x, i, a, r, xs, -, hw, -, -, rfl⟩ := gk_hast_inv h
    exact ⟨by simp, Nat.le_of_eq (gk_sl_set hw (by simp [gk_cs])).symm⟩
  | castore =>
    obtain ⟨x, i, a, r, xs, -, hw, -, -, rfl⟩ := gk_hast_inv h
    exact ⟨by simp, Nat.le_of_eq (gk_sl_set hw (by simp [gk_cs])).symm⟩
  | bastore =>
    obtain ⟨x, i, a, r, xs, -, hw, -, -, rfl⟩ := gk_hast_inv h
    exact ⟨by simp, Nat.le_of_eq (gk_sl_set hw (by simp [gk_cs])).symm⟩
  | lastore =>
    obtain ⟨x, i, a, r, xs, -, hw, -, rfl⟩ := gk_hlst_inv h
    exact ⟨by simp, Nat.le_of_eq (gk_sl_set hw (by simp [gk_cs])).symm⟩
  | arraylength =>
    rcases gk_hlen_inv h with ⟨r, xs, -, -, rfl⟩ | ⟨a, t, r, xs, -, -, -, rfl⟩ <;> exact ⟨Nat.le_refl _, Nat.le_refl _⟩
  | new k =>
    obtain ⟨ci, -, rfl⟩ := gk_hnew_inv h
    exact ⟨by simp, by rw [gk_sl_push]; omega⟩
  | newarray ty =>
    obtain ⟨n, r, -, -, -, ⟨t, -, -, rfl⟩ | ⟨-, rfl⟩⟩ := gk_harr_inv h <;> exact ⟨by simp, by rw [gk_sl_push]; omega⟩
  | ldc k =>
    obtain ⟨x, -, rfl⟩ := gk_hldi_inv h
    exact ⟨Nat.le_refl _, Nat.le_refl _⟩
  | ldc_w k =>
    obtain ⟨x, -, rfl⟩ := gk_hldi_inv h
    exact ⟨Nat.le_refl _, Nat.le_refl _⟩
  | ldc2_w k =>
    obtain ⟨x, -, rfl⟩ := gk_hldl_inv h
    exact ⟨Nat.le_refl _, Nat.le_refl _⟩
  | invokespecial k =>
    obtain ⟨a, r, -, -, rfl⟩ := gk_hobj_inv (gk_spec_inv h).2
    exact ⟨Nat.le_refl _, Nat.le_refl _⟩
  | invokestatic k =>
    rcases gk_stat_inv h with ⟨-, h⟩ | ⟨-, h⟩
    · obtain ⟨n, dp, sp, a1, a0, r, f, g, -, h0, h1, hc, rfl⟩ := gk_hcpy_inv h
      exact ⟨by simp, Nat.le_of_eq (gk_sl_set h1 (by simp only [gk_cs]; exact gk_cpy_len f g _ _ _ hc.2.2.2.1 hc.2.2.2.2.1)).symm⟩
    · obtain ⟨x, y, r, -, -, rfl⟩ := gk_hmin_inv h
      exact ⟨Nat.le_refl _, Nat.le_refl _⟩
  | _ => cases h
/-- one step of the interpreter, by what it was -/
theorem gk_run_inv {P : gk_Pg} {scr : Option (List Int32)} {n d mi pc : Nat} {l : gk_Lc} {st : List Value} {w : gk_Wd} {q : gk_Res × gk_Wd} (h : gk_run P (n + 1) scr d mi pc l st w = some q) : ∃ i : Instr, gk_dec P mi pc = some i ∧
    ((∃ x : gk_Pt, gk_pure pc l st i = some x ∧ gk_run P n scr d mi x.1 x.2.1 x.2.2 w = some q) ∨
    (∃ ci : Nat, gk_xnw P mi pc = some ci ∧ (gk_cat st ≤ 8 ∧ 5 ≤ d) ∧ q = (.inr ci, w ++ [.inl (ci, [])])) ∨
    (∃ x : List Value × gk_Wd, gk_heap P scr mi w st i = some x ∧ gk_run P n scr d mi (pc + gk_len i) l x.1 x.2 = some q) ∨
    (∃ r : Option Value, gk_ret (gk_inf P mi).2 st i = some r ∧ q = (.inl r, w)) ∨
    ∃ (d' mj : Nat) (as r : List Value), d = d' + 1 ∧ gk_call P mi w st i = some (mj, as, r) ∧ (as.flatMap gk_slots).length ≤ (gk_inf P mj).1 ∧
      ((∃ (v : Option Value) (w1 : gk_Wd), gk_run P n none d' mj 0 (gk_entry as (gk_inf P mj).1) [] w = some (.inl v, w1) ∧ gk_run P n scr d mi (pc + 3) l (v.toList ++ r) w1 = some q) ∨
      ∃ (ci h : Nat) (w1 : gk_Wd), gk_run P n none d' mj 0 (gk_entry as (gk_inf P mj).1) [] w = some (.inr ci, w1) ∧ gk_hnd P mi pc ci = some h ∧ gk_run P n scr d mi h l [.ref w1.length] w1 = some q)) := by
  rw [gk_run] at h
  split at h
  · cases h
  · rename_i i hi
    refine ⟨i, hi, ?_⟩
    split at h
    · rename_i x hx
      exact Or.inl ⟨x, hx, h⟩
    · split at h
      · rename_i ci hci
        split at h
        · rename_i hc
          cases h
          exact Or.inr (Or.inl ⟨ci, hci, hc, rfl⟩)
        · cases h
      · split at h
        · rename_i x hx
          exact Or.inr (Or.inr (Or.inl ⟨x, hx, h⟩))
        · split at h
          · rename_i r hr
            cases h
            exact Or.inr (Or.inr (Or.inr (Or.inl ⟨r, hr, rfl⟩)))
          · split at h
            · rename_i d' mj as r hcall
              split at h
              · rename_i hfit
                split at h
                · rename_i v w1 hrun
                  exact Or.inr (Or.inr (Or.inr (Or.inr ⟨d', mj, as, r, rfl, hcall, hfit, Or.inl ⟨v, w1, hrun, h⟩⟩)))
                · rename_i ci w1 hrun
                  split at h
                  · rename_i hp hh
                    exact Or.inr (Or.inr (Or.inr (Or.inr ⟨d', mj, as, r, rfl, hcall, hfit, Or.inr ⟨ci, hp, w1, hrun, hh, h⟩⟩)))
                  · cases h
                · cases h
              · cases h
            · cases h
theorem gk_run_mono {P : gk_Pg} : ∀ (n : Nat) (scr : Option (List Int32)) (d mi pc : Nat) (l : gk_Lc) (st : List Value) (w : gk_Wd) (q : gk_Res × gk_Wd), gk_run P n scr d mi pc l st w = some q → w.length ≤ q.2.length ∧ gk_sl (gk_nsl P) w ≤ gk_sl (gk_nsl P) q.2
  | 0, scr, d, mi, pc, l, st, w, q, h => by simp [gk_run] at h
  | n + 1, scr, d, mi, pc, l, st, w, q, h => by
    obtain ⟨i, -, h | h | h | h | h⟩ := gk_run_inv h
    · obtain ⟨x, -, h⟩ := h
      exact gk_run_mono n _ _ _ _ _ _ _ _ h
    · obtain ⟨ci, -, -, rfl⟩ := h
      exact ⟨by simp, by rw [gk_sl_push]; omega⟩
    · obtain ⟨x, h1, h2⟩ := h
      have a1 := gk_heap_mono h1
      have a2 := gk_run_mono n _ _ _ _ _ _ _ _ h2
      exact ⟨Nat.le_trans a1.1 a2.1, Nat.le_trans a1.2 a2.2⟩
    · obtain ⟨r, -, rfl⟩ := h
      exact ⟨Nat.le_refl _, Nat.le_refl _⟩
    · obtain ⟨d', mj, as, r, -, -, -, ⟨v, w1, h1, h2⟩ | ⟨ci, hp, w1, h1, -, h2⟩⟩ := h
      · have a1 := gk_run_mono n _ _ _ _ _ _ _ _ h1
        have a2 := gk_run_mono n _ _ _ _ _ _ _ _ h2
        exact ⟨Nat.le_trans a1.1 a2.1, Nat.le_trans a1.2 a2.2⟩
      · have a1 := gk_run_mono n _ _ _ _ _ _ _ _ h1
        have a2 := gk_run_mono n _ _ _ _ _ _ _ _ h2
        exact ⟨Nat.le_trans a1.1 a2.1, Nat.le_trans a1.2 a2.2⟩
