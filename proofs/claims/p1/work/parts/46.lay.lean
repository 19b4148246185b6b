/-! part 26: the world behind the constructors: a fixed row of cells (printed: gp_lay, gp_w0), their contents by name of place: w_i fields that are ints, w_a rows of ints, chars, booleans, w_l rows of longs -/
abbrev gk_S : Type := (Nat × List Nat) ⊕ ((Nat × Nat) ⊕ Nat)
def gk_fc (v : Value) : Nat := match v with
  | .int _ => 0
  | .ref k => k + 2
  | _ => 1
def gk_shp (c : gk_AC) : gk_S := match c with
  | .inl o => .inl (o.1, o.2.map gk_fc)
  | .inr (.inl a) => .inr (.inl (a.1, a.2.length))
  | .inr (.inr a) => .inr (.inr a.length)
def gp_lay : List gk_S := [.inl (0, [4, 6, 8, 10, 14, 17, 20, 22, 0]), .inl (3, [5, 0]), .inr (.inl (1, 9)), .inl (7, [7, 0]), .inr (.inr 60), .inl (7, [9, 0]), .inr (.inr 60), .inl (2, [11, 13]), .inl (7, [12, 0]), .inr (.inr 60), .inr (.inl (0, 16)), .inl (4, [10, 15, 0]), .inl (7, [16, 0]), .inr (.inr 60), .inl (6, [18, 19, 0]), .inr (.inl (0, 16)), .inr (.inl (0, 16)), .inl (5, [21]), .inr (.inl (0, 16)), .inl (8, [23, 0, 24, 25, 26, 27, 0, 28, 0]), .inr (.inl (0, 10)), .inr (.inl (0, 176)), .inr (.inl (0, 1936)), .inr (.inr 11), .inr (.inl (0, 10)), .inr (.inl (0, 20)), .inl (1, [0, 0, 30, 0, 0, 31, 32, 33, 0, 34, 35, 36, 0, 37, 0, 0, 38, 39, 40, 41, 42, 43, 44, 45, 0, 46, 47, 48, 0, 49, 0, 50, 0, 51, 52, 53, 54, 55, 56]), .inr (.inl (1, 9)), .inr (.inl (0, 64)), .inr (.inl (0, 64)), .inr (.inl (0, 640)), .inr (.inl (0, 64)), .inr (.inl (0, 64)), .inr (.inl (0, 640)), .inr (.inl (0, 24)), .inr (.inl (2, 16)), .inr (.inl (2, 16)), .inr (.inl (2, 16)), .inr (.inl (2, 16)), .inr (.inl (2, 16)), .inr (.inl (2, 256)), .inr (.inl (0, 16)), .inr (.inl (0, 16)), .inr (.inl (0, 10)), .inr (.inl (0, 176)), .inr (.inl (0, 1936)), .inr (.inl (0, 10)), .inr (.inl (0, 40)), .inr (.inl (0, 64)), .inr (.inl (0, 64)), .inr (.inl (0, 640)), .inr (.inl (0, 12)), .inr (.inl (0, 11)), .inr (.inl (0, 11)), .inr (.inr 1)]
def gp_w0 : gk_Wd := [.inl (0, [.ref 2, .ref 4, .ref 6, .ref 8, .ref 12, .ref 15, .ref 18, .ref 20, .int (-1)]), .inl (3, [.ref 3, .int (0)]), .inr (.inl (1, List.replicate 9 0)), .inl (7, [.ref 5, .int (0)]), .inr (.inr (List.replicate 60 0)), .inl (7, [.ref 7, .int (0)]), .inr (.inr (List.replicate 60 0)), .inl (2, [.ref 9, .ref 11]), .inl (7, [.ref 10, .int (0)]), .inr (.inr (List.replicate 60 0)), .inr (.inl (0, List.replicate 16 0)), .inl (4, [.ref 8, .ref 13, .int (0)]), .inl (7, [.ref 14, .int (0)]), .inr (.inr (List.replicate 60 0)), .inl (6, [.ref 16, .ref 17, .int (0)]), .inr (.inl (0, List.replicate 16 0)), .inr (.inl (0, List.replicate 16 0)), .inl (5, [.ref 19]), .inr (.inl (0, List.replicate 16 0)), .inl (8, [.ref 21, .int (0), .ref 22, .ref 23, .ref 24, .ref 25, .int (0), .ref 26, .int (0)]), .inr (.inl (0, List.replicate 10 0)), .inr (.inl (0, List.replicate 176 0)), .inr (.inl (0, List.replicate 1936 0)), .inr (.inr (List.replicate 11 0)), .inr (.inl (0, List.replicate 10 0)), .inr (.inl (0, List.replicate 20 0)), .inl (1, [.int (0), .int (0), .ref 28, .int (-1), .int (0), .ref 29, .ref 30, .ref 31, .int (0), .ref 32, .ref 33, .ref 34, .int (0), .ref 35, .int (0), .int (0), .ref 36, .ref 37, .ref 38, .ref 39, .ref 40, .ref 41, .ref 42, .ref 43, .int (0), .ref 44, .ref 45, .ref 46, .int (0), .ref 47, .int (0), .ref 48, .int (0), .ref 49, .ref 50, .ref 51, .ref 52, .ref 53, .ref 54]), .inr (.inl (1, List.replicate 9 0)), .inr (.inl (0, List.replicate 64 0)), .inr (.inl (0, List.replicate 64 0)), .inr (.inl (0, List.replicate 640 0)), .inr (.inl (0, List.replicate 64 0)), .inr (.inl (0, List.replicate 64 0)), .inr (.inl (0, List.replicate 640 0)), .inr (.inl (0, List.replicate 24 0)), .inr (.inl (2, List.replicate 16 0)), .inr (.inl (2, List.replicate 16 0)), .inr (.inl (2, List.replicate 16 0)), .inr (.inl (2, List.replicate 16 0)), .inr (.inl (2, List.replicate 16 0)), .inr (.inl (2, List.replicate 256 0)), .inr (.inl (0, List.replicate 16 0)), .inr (.inl (0, List.replicate 16 0)), .inr (.inl (0, List.replicate 10 0)), .inr (.inl (0, List.replicate 176 0)), .inr (.inl (0, List.replicate 1936 0)), .inr (.inl (0, List.replicate 10 0)), .inr (.inl (0, List.replicate 40 0)), .inr (.inl (0, List.replicate 64 0)), .inr (.inl (0, List.replicate 64 0)), .inr (.inl (0, List.replicate 640 0)), .inr (.inl (0, List.replicate 12 0)), .inr (.inl (0, List.replicate 11 0)), .inr (.inl (0, List.replicate 11 0)), .inr (.inr (List.replicate 1 0))]
def gk_Sh (r : List gk_S) (w : gk_Wd) : Prop := w.map gk_shp = gp_lay ++ r
def w_i (w : gk_Wd) (a k : Nat) : Int32 := match w[a]? with
  | some (.inl o) => (match o.2[k]? with
    | some (.int x) => x
    | _ => 0)
  | _ => 0
def w_a (w : gk_Wd) (a : Nat) : List Int32 := match w[a]? with
  | some (.inr (.inl x)) => x.2
  | _ => []
def w_l (w : gk_Wd) (a : Nat) : List Int64 := match w[a]? with
  | some (.inr (.inr x)) => x
  | _ => []
def w_si (w : gk_Wd) (a k : Nat) (x : Int32) : gk_Wd := match w[a]? with
  | some (.inl o) => w.set a (.inl (o.1, o.2.set k (.int x)))
  | _ => w
def w_sa (w : gk_Wd) (a : Nat) (xs : List Int32) : gk_Wd := match w[a]? with
  | some (.inr (.inl o)) => w.set a (.inr (.inl (o.1, xs)))
  | _ => w
def w_sl (w : gk_Wd) (a : Nat) (xs : List Int64) : gk_Wd := match w[a]? with
  | some (.inr (.inr _)) => w.set a (.inr (.inr xs))
  | _ => w
section WG
variable {r : List gk_S} {w : gk_Wd} {a b k j t n ci : Nat} {ks : List Nat} {s : gk_S}
theorem w_at (hS : gk_Sh r w) (h : gp_lay[a]? = some s) : ∃ c, w[a]? = some c ∧ gk_shp c = s := by
  have h1 : (w.map gk_shp)[a]? = some s := by
    rw [hS, List.getElem?_append_left (List.getElem?_eq_some_iff.mp h).1]; exact h
  rw [List.getElem?_map] at h1
  cases hc : w[a]? with
  | none => rw [hc] at h1; cases h1
  | some c => rw [hc] at h1; exact ⟨c, rfl, Option.some.inj h1⟩
theorem w_obj (hS : gk_Sh r w) (h : gp_lay[a]? = some (.inl (ci, ks))) : ∃ fs, w[a]? = some (.inl (ci, fs)) ∧ fs.map gk_fc = ks := by
  obtain ⟨c, h1, h2⟩ := w_at hS h
  match c, h2 with
  | .inl (c1, fs), h2 => cases h2; exact ⟨fs, h1, rfl⟩
  | .inr (.inl _), h2 => cases h2
  | .inr (.inr _), h2 => cases h2
theorem w_int (hS : gk_Sh r w) (h : gp_lay[a]? = some (.inr (.inl (t, n)))) : w[a]? = some (.inr (.inl (t, w_a w a))) ∧ (w_a w a).length = n := by
  obtain ⟨c, h1, h2⟩ := w_at hS h
  match c, h2 with
  | .inl _, h2 => cases h2
  | .inr (.inl (t1, xs)), h2 => cases h2; unfold w_a; rw [h1]; exact ⟨rfl, rfl⟩
  | .inr (.inr _), h2 => cases h2
theorem w_lng (hS : gk_Sh r w) (h : gp_lay[a]? = some (.inr (.inr n))) : w[a]? = some (.inr (.inr (w_l w a))) ∧ (w_l w a).length = n := by
  obtain ⟨c, h1, h2⟩ := w_at hS h
  match c, h2 with
  | .inl _, h2 => cases h2
  | .inr (.inl _), h2 => cases h2
  | .inr (.inr xs), h2 => cases h2; unfold w_l; rw [h1]; exact ⟨rfl, rfl⟩
theorem w_fld (hS : gk_Sh r w) (h : gp_lay[a]? = some (.inl (ci, ks))) (hk : ks[k]? = some 0) : ∃ fs, w[a]? = some (.inl (ci, fs)) ∧ fs[k]? = some (.int (w_i w a k)) ∧ fs.map gk_fc = ks := by
  obtain ⟨fs, h1, h2⟩ := w_obj hS h
  rw [← h2, List.getElem?_map] at hk
  cases hc : fs[k]? with
  | none => rw [hc] at hk; cases hk
  | some v =>
    rw [hc] at hk
    match v, hk with
    | .int x, hk => refine ⟨fs, h1, ?_, h2⟩; unfold w_i; rw [h1]; simp only [hc]
    | .ref m, hk => exact absurd (Option.some.inj hk) (by simp [gk_fc])
    | .null, hk => exact absurd (Option.some.inj hk) (by simp [gk_fc])
    | .long _, hk => exact absurd (Option.some.inj hk) (by simp [gk_fc])
    | .float _, hk => exact absurd (Option.some.inj hk) (by simp [gk_fc])
    | .double _, hk => exact absurd (Option.some.inj hk) (by simp [gk_fc])
    | .retAddr _, hk => exact absurd (Option.some.inj hk) (by simp [gk_fc])
theorem w_rfd {m : Nat} (hS : gk_Sh r w) (h : gp_lay[a]? = some (.inl (ci, ks))) (hk : ks[k]? = some (m + 2)) : ∃ fs, w[a]? = some (.inl (ci, fs)) ∧ fs[k]? = some (.ref m) := by
  obtain ⟨fs, h1, h2⟩ := w_obj hS h
  rw [← h2, List.getElem?_map] at hk
  cases hc : fs[k]? with
  | none => rw [hc] at hk; cases hk
  | some v =>
    rw [hc] at hk
    match v, hk with
    | .int x, hk => exact absurd (Option.some.inj hk) (by simp [gk_fc])
    | .ref m1, hk =>
      have : m1 + 2 = m + 2 := Option.some.inj hk
      obtain rfl : m1 = m := Nat.add_right_cancel this
      exact ⟨fs, h1, hc⟩
    | .null, hk => exact absurd (Option.some.inj hk) (by simp [gk_fc])
    | .long _, hk => exact absurd (Option.some.inj hk) (by simp [gk_fc])
    | .float _, hk => exact absurd (Option.some.inj hk) (by simp [gk_fc])
    | .double _, hk => exact absurd (Option.some.inj hk) (by simp [gk_fc])
    | .retAddr _, hk => exact absurd (Option.some.inj hk) (by simp [gk_fc])
variable {st : List Value} {scr : Option (List Int32)} {i x : Int32}
theorem h_gi (hS : gk_Sh r w) (h : gp_lay[a]? = some (.inl (ci, ks))) (hk : ks[k]? = some 0) : gk_hget (some (ci, k)) w (.ref (a + 1) :: st) = some (.int (w_i w a k) :: st, w) := by
  obtain ⟨fs, h1, h2, -⟩ := w_fld hS h hk
  simp only [gk_hget, h1, h2, if_true]
theorem h_gr {m : Nat} (hS : gk_Sh r w) (h : gp_lay[a]? = some (.inl (ci, ks))) (hk : ks[k]? = some (m + 2)) : gk_hget (some (ci, k)) w (.ref (a + 1) :: st) = some (.ref m :: st, w) := by
  obtain ⟨fs, h1, h2⟩ := w_rfd hS h hk
  simp only [gk_hget, h1, h2, if_true]
theorem h_pi {ft : Nat → Nat → FieldType} (hS : gk_Sh r w) (h : gp_lay[a]? = some (.inl (ci, ks))) (hk : ks[k]? = some 0) (hf : fits (ft ci k) (.int x) = true) : gk_hput (some (ci, k)) ft w (.int x :: .ref (a + 1) :: st) = some (st, w_si w a k x) := by
  obtain ⟨fs, h1, h2, -⟩ := w_fld hS h hk
  have hl : k < fs.length := (List.getElem?_eq_some_iff.mp h2).1
  simp only [gk_hput, w_si, h1]
  rw [if_pos ⟨trivial, hl, hf⟩]
theorem h_al (hS : gk_Sh r w) (h : gp_lay[a]? = some (.inr (.inl (t, n)))) (hb : gk_out i n = false) : gk_hald t scr w (.int i :: .ref (a + 1) :: st) = some (.int ((w_a w a).getD i.toNatClampNeg 0) :: st, w) := by
  obtain ⟨h1, h2⟩ := w_int hS h
  simp only [gk_hald, h1]
  rw [if_pos ⟨trivial, by rw [h2]; exact hb⟩]
theorem h_sl {xs : List Int32} (hb : gk_out i xs.length = false) : gk_hald 0 (some xs) w (.int i :: .ref 0 :: st) = some (.int (xs.getD i.toNatClampNeg 0) :: st, w) := by
  simp only [gk_hald]
  rw [if_pos ⟨trivial, hb⟩]
theorem h_as (hS : gk_Sh r w) (h : gp_lay[a]? = some (.inr (.inl (t, n)))) (hb : gk_out i n = false) (hf : fits (gk_ty t) (.int x) = true) : gk_hast t w (.int x :: .int i :: .ref (a + 1) :: st) = some (st, w_sa w a ((w_a w a).set i.toNatClampNeg x)) := by
  obtain ⟨h1, h2⟩ := w_int hS h
  simp only [gk_hast, w_sa, h1]
  rw [if_pos ⟨trivial, by rw [h2]; exact hb, hf⟩]
theorem h_ll (hS : gk_Sh r w) (h : gp_lay[a]? = some (.inr (.inr n))) (hb : gk_out i n = false) : gk_hlld w (.int i :: .ref (a + 1) :: st) = some (.long ((w_l w a).getD i.toNatClampNeg 0) :: st, w) := by
  obtain ⟨h1, h2⟩ := w_lng hS h
  simp only [gk_hlld, h1]
  rw [if_pos (by rw [h2]; exact hb)]
theorem h_ls {x : Int64} (hS : gk_Sh r w) (h : gp_lay[a]? = some (.inr (.inr n))) (hb : gk_out i n = false) : gk_hlst w (.long x :: .int i :: .ref (a + 1) :: st) = some (st, w_sl w a ((w_l w a).set i.toNatClampNeg x)) := by
  obtain ⟨h1, h2⟩ := w_lng hS h
  simp only [gk_hlst, w_sl, h1]
  rw [if_pos (by rw [h2]; exact hb)]
theorem h_len (hS : gk_Sh r w) (h : gp_lay[a]? = some (.inr (.inl (t, n)))) (ht : t < 3) : gk_hlen scr w (.ref (a + 1) :: st) = some (.int (Int32.ofNat n) :: st, w) := by
  obtain ⟨h1, h2⟩ := w_int hS h
  simp only [gk_hlen, h1, h2]
  rw [if_pos ht]
theorem h_cpy {n0 n1 : Nat} {sp dp m : Int32} (hS : gk_Sh r w) (h0 : gp_lay[a]? = some (.inr (.inr n0))) (h1 : gp_lay[b]? = some (.inr (.inr n1))) (hc : ¬ sp < 0 ∧ ¬ dp < 0 ∧ ¬ m < 0 ∧ sp.toNatClampNeg + m.toNatClampNeg ≤ n0 ∧ dp.toNatClampNeg + m.toNatClampNeg ≤ n1) (hs : gk_cat st ≤ 8) : gk_hcpy w (.int m :: .int dp :: .ref (b + 1) :: .int sp :: .ref (a + 1) :: st) = some (st, w_sl w b (gk_cpy (w_l w a) (w_l w b) sp.toNatClampNeg dp.toNatClampNeg m.toNatClampNeg)) := by
  obtain ⟨a1, a2⟩ := w_lng hS h0
  obtain ⟨b1, b2⟩ := w_lng hS h1
  simp only [gk_hcpy, w_sl, a1, b1]
  rw [if_pos ⟨hc.1, hc.2.1, hc.2.2.1, by rw [a2]; exact hc.2.2.2.1, by rw [b2]; exact hc.2.2.2.2, hs⟩]
theorem w_map_set {c : gk_AC} {c1 : gk_AC} (h : w[a]? = some c) (he : gk_shp c1 = gk_shp c) : (w.set a c1).map gk_shp = w.map gk_shp := by
  rw [List.map_set, he]
  apply List.ext_getElem?
  intro m
  rw [List.getElem?_set]
  split
  · rename_i hm
    subst hm
    split
    · rw [List.getElem?_map, h]; rfl
    · rename_i hl
      rw [List.getElem?_eq_none (by omega)]
  · rfl
theorem sh_si (hS : gk_Sh r w) (h : gp_lay[a]? = some (.inl (ci, ks))) (hk : ks[k]? = some 0) (x : Int32) : gk_Sh r (w_si w a k x) := by
  obtain ⟨fs, h1, h2, h3⟩ := w_fld hS h hk
  unfold gk_Sh
  rw [← hS]
  unfold w_si
  rw [h1]
  refine w_map_set h1 ?_
  simp only [gk_shp, List.map_set]
  congr 2
  apply List.ext_getElem?
  intro m
  rw [List.getElem?_set]
  split
  · rename_i hm
    subst hm
    split
    · rw [List.getElem?_map, h2]; rfl
    · rename_i hl
      rw [List.getElem?_eq_none (by omega)]
  · rfl
theorem sh_sa (hS : gk_Sh r w) (h : gp_lay[a]? = some (.inr (.inl (t, n)))) {xs : List Int32} (hl : xs.length = n) : gk_Sh r (w_sa w a xs) := by
  obtain ⟨h1, h2⟩ := w_int hS h
  unfold gk_Sh
  rw [← hS]
  unfold w_sa
  rw [h1]
  refine w_map_set h1 ?_
  simp only [gk_shp, hl, h2]
theorem sh_sl (hS : gk_Sh r w) (h : gp_lay[a]? = some (.inr (.inr n))) {xs : List Int64} (hl : xs.length = n) : gk_Sh r (w_sl w a xs) := by
  obtain ⟨h1, h2⟩ := w_lng hS h
  unfold gk_Sh
  rw [← hS]
  unfold w_sl
  rw [h1]
  refine w_map_set h1 ?_
  simp only [gk_shp, hl, h2]
theorem sh_as (hS : gk_Sh r w) (h : gp_lay[a]? = some (.inr (.inl (t, n)))) (m : Nat) (x : Int32) : gk_Sh r (w_sa w a ((w_a w a).set m x)) := sh_sa hS h (by rw [List.length_set]; exact (w_int hS h).2)
theorem sh_ls (hS : gk_Sh r w) (h : gp_lay[a]? = some (.inr (.inr n))) (m : Nat) (x : Int64) : gk_Sh r (w_sl w a ((w_l w a).set m x)) := sh_sl hS h (by rw [List.length_set]; exact (w_lng hS h).2)
theorem sh_cpy {n0 n1 : Nat} (hS : gk_Sh r w) (h0 : gp_lay[a]? = some (.inr (.inr n0))) (h1 : gp_lay[b]? = some (.inr (.inr n1))) {sp dp m : Nat} (hc : sp + m ≤ n0 ∧ dp + m ≤ n1) : gk_Sh r (w_sl w b (gk_cpy (w_l w a) (w_l w b) sp dp m)) := sh_sl hS h1 (by
  rw [gk_cpy_len _ _ _ _ _ (by rw [(w_lng hS h0).2]; exact hc.1) (by rw [(w_lng hS h1).2]; exact hc.2)]; exact (w_lng hS h1).2)
theorem sh_thr (hS : gk_Sh r w) (ci : Nat) : gk_Sh (r ++ [.inl (ci, [])]) (w ++ [.inl (ci, [])]) := by
  unfold gk_Sh
  rw [List.map_append, hS, List.append_assoc]; rfl
end WG
