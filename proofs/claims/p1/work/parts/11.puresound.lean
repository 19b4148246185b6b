/-! part 2: the instructions without heap and calls are what gk_pure says of them -/
theorem gk_ii_inv {pc : Nat} {l : gk_Lc} {st : List Value} {f : Int32 → Int32 → Int32} {q : gk_Pt} (h : gk_ii pc l st f = some q) : ∃ (x y : Int32) (r : List Value), st = .int y :: .int x :: r ∧ q = (pc + 1, l, .int (f x y) :: r) := by
  unfold gk_ii at h
  split at h
  · cases h; exact ⟨_, _, _, rfl, rfl⟩
  · cases h
theorem gk_iz_inv {pc : Nat} {l : gk_Lc} {st : List Value} {f : Int32 → Int32 → Int32} {q : gk_Pt} (h : gk_iz pc l st f = some q) : ∃ (x y : Int32) (r : List Value), st = .int y :: .int x :: r ∧ ¬ y = 0 ∧ q = (pc + 1, l, .int (f x y) :: r) := by
  unfold gk_iz at h
  split at h
  · split at h
    · cases h
    · rename_i hn
      cases h; exact ⟨_, _, _, rfl, hn, rfl⟩
  · cases h
theorem gk_ll_inv {pc : Nat} {l : gk_Lc} {st : List Value} {f : Int64 → Int64 → Int64} {q : gk_Pt} (h : gk_ll pc l st f = some q) : ∃ (x y : Int64) (r : List Value), st = .long y :: .long x :: r ∧ q = (pc + 1, l, .long (f x y) :: r) := by
  unfold gk_ll at h
  split at h
  · cases h; exact ⟨_, _, _, rfl, rfl⟩
  · cases h
theorem gk_li_inv {pc : Nat} {l : gk_Lc} {st : List Value} {f : Int64 → Int32 → Int64} {q : gk_Pt} (h : gk_li pc l st f = some q) : ∃ (x : Int64) (y : Int32) (r : List Value), st = .int y :: .long x :: r ∧ q = (pc + 1, l, .long (f x y) :: r) := by
  unfold gk_li at h
  split at h
  · cases h; exact ⟨_, _, _, rfl, rfl⟩
  · cases h
theorem gk_ui_inv {pc : Nat} {l : gk_Lc} {st : List Value} {f : Int32 → Value} {q : gk_Pt} (h : gk_ui pc l st f = some q) : ∃ (x : Int32) (r : List Value), st = .int x :: r ∧ q = (pc + 1, l, f x :: r) := by
  unfold gk_ui at h
  split at h
  · cases h; exact ⟨_, _, rfl, rfl⟩
  · cases h
theorem gk_ul_inv {pc : Nat} {l : gk_Lc} {st : List Value} {f : Int64 → Value} {q : gk_Pt} (h : gk_ul pc l st f = some q) : ∃ (x : Int64) (r : List Value), st = .long x :: r ∧ q = (pc + 1, l, f x :: r) := by
  unfold gk_ul at h
  split at h
  · cases h; exact ⟨_, _, rfl, rfl⟩
  · cases h
theorem gk_lc_inv {pc : Nat} {l : gk_Lc} {st : List Value} {q : gk_Pt} (h : gk_lc pc l st = some q) : ∃ (x y : Int64) (r : List Value), st = .long y :: .long x :: r ∧ q = (pc + 1, l, .int (lg_cmp x y) :: r) := by
  unfold gk_lc at h
  split at h
  · cases h; exact ⟨_, _, _, rfl, rfl⟩
  · cases h
theorem gk_dup_inv {pc : Nat} {l : gk_Lc} {st : List Value} {q : gk_Pt} (h : gk_dup pc l st = some q) : ∃ (v : Value) (r : List Value), st = v :: r ∧ v.category = 1 ∧ q = (pc + 1, l, v :: v :: r) := by
  unfold gk_dup at h
  split at h
  · split at h
    · rename_i hc
      cases h; exact ⟨_, _, rfl, hc, rfl⟩
    · cases h
  · cases h
theorem gk_pop_inv {pc : Nat} {l : gk_Lc} {st : List Value} {q : gk_Pt} (h : gk_pop pc l st = some q) : ∃ (v : Value) (r : List Value), st = v :: r ∧ v.category = 1 ∧ q = (pc + 1, l, r) := by
  unfold gk_pop at h
  split at h
  · split at h
    · rename_i hc
      cases h; exact ⟨_, _, rfl, hc, rfl⟩
    · cases h
  · cases h
theorem gk_dup2_inv {pc : Nat} {l : gk_Lc} {st : List Value} {q : gk_Pt} (h : gk_dup2 pc l st = some q) : ∃ (v u : Value) (r : List Value), st = v :: u :: r ∧ v.category = 1 ∧ u.category = 1 ∧ q = (pc + 1, l, v :: u :: v :: u :: r) := by
  unfold gk_dup2 at h
  split at h
  · split at h
    · rename_i hc
      cases h; exact ⟨_, _, _, rfl, hc.1, hc.2, rfl⟩
    · cases h
  · cases h
theorem gk_to_inv {pc : Nat} {off : Int} {l : gk_Lc} {r : List Value} {q : gk_Pt} (h : gk_to pc off l r = some q) : ∃ t : Nat, (pc : Int) + off = (t : Int) ∧ q = (t, l, r) := by
  unfold gk_to at h
  split at h
  · rename_i t ht
    cases h; exact ⟨t, gk_jmp_eq ht, rfl⟩
  · cases h
theorem gk_br_inv {pc : Nat} {off : Int} {l : gk_Lc} {r : List Value} {b : Bool} {q : gk_Pt} (h : gk_br pc off l r b = some q) : ∃ t : Nat, (pc : Int) + off = (t : Int) ∧ q = (if b = true then t else pc + 3, l, r) := by
  unfold gk_br at h
  split at h
  · rename_i t ht
    cases h; exact ⟨t, gk_jmp_eq ht, rfl⟩
  · cases h
theorem gk_if_inv {pc : Nat} {l : gk_Lc} {st : List Value} {c : ClassFile.Cond} {off : Int} {q : gk_Pt} (h : gk_if pc l st c off = some q) : ∃ (x : Int32) (r : List Value) (t : Nat), st = .int x :: r ∧ (pc : Int) + off = (t : Int) ∧ q = (if gk_cmp c x 0 = true then t else pc + 3, l, r) := by
  unfold gk_if at h
  split at h
  · obtain ⟨t, h1, h2⟩ := gk_br_inv h
    exact ⟨_, _, t, rfl, h1, h2⟩
  · cases h
theorem gk_ic_inv {pc : Nat} {l : gk_Lc} {st : List Value} {c : ClassFile.Cond} {off : Int} {q : gk_Pt} (h : gk_ic pc l st c off = some q) : ∃ (x y : Int32) (r : List Value) (t : Nat), st = .int y :: .int x :: r ∧ (pc : Int) + off = (t : Int) ∧ q = (if gk_cmp c x y = true then t else pc + 3, l, r) := by
  unfold gk_ic at h
  split at h
  · obtain ⟨t, h1, h2⟩ := gk_br_inv h
    exact ⟨_, _, _, t, rfl, h1, h2⟩
  · cases h
theorem gk_ldi_inv {l : gk_Lc} {n k : Nat} {st : List Value} {q : gk_Pt} (h : gk_ld n l st (gk_ldi l k) = some q) : ∃ x : Int32, l[k]? = some (some (.int x)) ∧ q = (n, l, .int x :: st) := by
  unfold gk_ld gk_ldi at h
  split at h
  · rename_i v hv
    split at hv
    · rename_i x hx
      cases hv; cases h; exact ⟨x, hx, rfl⟩
    · cases hv
  · cases h
theorem gk_ldl_inv {l : gk_Lc} {n k : Nat} {st : List Value} {q : gk_Pt} (h : gk_ld n l st (gk_ldl l k) = some q) : ∃ x : Int64, l[k]? = some (some (.long x)) ∧ q = (n, l, .long x :: st) := by
  unfold gk_ld gk_ldl at h
  split at h
  · rename_i v hv
    split at hv
    · rename_i x hx
      cases hv; cases h; exact ⟨x, hx, rfl⟩
    · cases hv
  · cases h
theorem gk_lda_inv {l : gk_Lc} {n k : Nat} {st : List Value} {q : gk_Pt} (h : gk_ld n l st (gk_lda l k) = some q) : (∃ x : Nat, l[k]? = some (some (.ref x)) ∧ q = (n, l, .ref x :: st)) ∨ (l[k]? = some (some .null) ∧ q = (n, l, .null :: st)) := by
  unfold gk_ld gk_lda at h
  split at h
  · rename_i v hv
    split at hv
    · rename_i x hx
      cases hv; cases h; exact Or.inl ⟨x, hx, rfl⟩
    · rename_i hx
      cases hv; cases h; exact Or.inr ⟨hx, rfl⟩
    · cases hv
  · cases h
theorem gk_sti_inv {l : gk_Lc} {n k : Nat} {st : List Value} {q : gk_Pt} (h : gk_sti n k l st = some q) : ∃ (x : Int32) (r : List Value), st = .int x :: r ∧ k < l.length ∧ q = (n, gk_st1 (.int x) k l, r) := by
  unfold gk_sti at h
  split at h
  · split at h
    · rename_i hk
      cases h; exact ⟨_, _, rfl, hk, rfl⟩
    · cases h
  · cases h
theorem gk_stl_inv {l : gk_Lc} {n k : Nat} {st : List Value} {q : gk_Pt} (h : gk_stl n k l st = some q) : ∃ (x : Int64) (r : List Value), st = .long x :: r ∧ k + 1 < l.length ∧ q = (n, gk_st2 (.long x) k l, r) := by
  unfold gk_stl at h
  split at h
  · split at h
    · rename_i hk
      cases h; exact ⟨_, _, rfl, hk, rfl⟩
    · cases h
  · cases h
theorem gk_sta_inv {l : gk_Lc} {n k : Nat} {st : List Value} {q : gk_Pt} (h : gk_sta n k l st = some q) : k < l.length ∧ ((∃ (x : Nat) (r : List Value), st = .ref x :: r ∧ q = (n, gk_st1 (.ref x) k l, r)) ∨ ∃ r : List Value, st = .null :: r ∧ q = (n, gk_st1 .null k l, r)) := by
  unfold gk_sta at h
  split at h
  · split at h
    · rename_i hk
      cases h; exact ⟨hk, Or.inl ⟨_, _, rfl, rfl⟩⟩
    · cases h
  · split at h
    · rename_i hk
      cases h; exact ⟨hk, Or.inr ⟨_, rfl, rfl⟩⟩
    · cases h
  · cases h
theorem gk_inc_inv {pc : Nat} {l : gk_Lc} {st : List Value} {k : Nat} {n : Int} {q : gk_Pt} (h : gk_inc pc l st k n = some q) : ∃ x : Int32, l[k]? = some (some (.int x)) ∧ q = (pc + 3, gk_st1 (.int (x + Int32.ofInt n)) k l, st) := by
  unfold gk_inc at h
  split at h
  · rename_i x hx
    cases h; exact ⟨x, hx, rfl⟩
  · cases h
theorem gk_sw_inv {pc : Nat} {l : gk_Lc} {st : List Value} {d lo hi : Int} {offs : Array Int} {q : gk_Pt} (h : gk_sw pc l st d lo hi offs = some q) : ∃ (x : Int32) (r : List Value) (t : Nat), st = .int x :: r ∧ q = (t, l, r) ∧ (((x.toInt < lo ∨ hi < x.toInt) ∧ (pc : Int) + d = (t : Int)) ∨ (¬ (x.toInt < lo ∨ hi < x.toInt) ∧ ∃ off : Int, offs[(x.toInt - lo).toNat]? = some off ∧ (pc : Int) + off = (t : Int))) := by
  unfold gk_sw at h
  split at h
  · split at h
    · rename_i hc
      obtain ⟨t, h1, h2⟩ := gk_to_inv h
      exact ⟨_, _, t, rfl, h2, Or.inl ⟨hc, h1⟩⟩
    · rename_i hc
      split at h
      · rename_i off ho
        obtain ⟨t, h1, h2⟩ := gk_to_inv h
        exact ⟨_, _, t, rfl, h2, Or.inr ⟨hc, off, ho, h1⟩⟩
      · cases h
  · cases h
theorem gk_pr_at {ad : Nat → Nat} {l : gk_Lc} {k : Nat} {v : Value} (h : l[k]? = some (some v)) : ∃ j : Nat, (gk_pr ad 0 l)[j]? = some (k, gk_v ad v) := by
  have := gk_pr_in ad l 0 k v h
  rw [Nat.zero_add] at this
  exact List.getElem?_of_mem this
section GK2
variable {p : Program} {l : Launch} {e : Env} {R : Room} {s : State} {m : MethodId} {args : Array Value} {below : List Frame} {meth : Method} {c : Code} {H : Heap} {locs : List Loc} {cells slots : Nat} {Q : State → Prop}
variable {cc : ByteArray} {pc : Nat} {ls : Array Slot} {ad : Nat → Nat}
set_option maxHeartbeats 4000000 in
theorem gk_pure_ok (hx : p.tables.exec = Jvm.exec) (hb : c.code = cc) {i : Instr} {len : Nat} (hd : decode cc pc = .ok (i, len)) (hlen : gk_len i = 0 ∨ len = gk_len i) {lc lc' : gk_Lc} {st st' : List Value} {pc' : Nat} (hl : gk_L ad ls lc) (h : gk_pure pc lc st i = some (pc', lc', st'))
    (kk : ∀ ls' : Array Slot, gk_L ad ls' lc' → W p l e R s m args below meth c H locs cells slots Q (F0 m pc' ls' (gk_vs ad st'))) : W p l e R s m args below meth c H locs cells slots Q (F0 m pc ls (gk_vs ad st)) := by
  have hh := gk_has hl
  cases i with
  | iconst n =>
    obtain rfl : len = 1 := by simpa [gk_len] using hlen
    cases h
    exact lv_iconst hx hb hd rfl (kk ls hl)
  | bipush n =>
    obtain rfl : len = 2 := by simpa [gk_len] using hlen
    cases h
    exact lv_bipush hx hb hd rfl (kk ls hl)
  | sipush n =>
    obtain rfl : len = 3 := by simpa [gk_len] using hlen
    cases h
    exact lv_sipush hx hb hd rfl (kk ls hl)
  | lconst n =>
    obtain rfl : len = 1 := by simpa [gk_len] using hlen
    cases h
    exact lv_lconst hx hb hd rfl (kk ls hl)
  | iload k =>
    obtain rfl : len = 2 := by simpa [gk_len] using hlen
    obtain ⟨x, h1, h2⟩ := gk_ldi_inv h
    cases h2
    exact lv_iload hx hb hd (hl.2.2 _ _ h1) (kk ls hl)
  | iload_n k =>
    obtain rfl : len = 1 := by simpa [gk_len] using hlen
    obtain ⟨x, h1, h2⟩ := gk_ldi_inv h
    cases h2
    exact lv_iload_n hx hb hd rfl (hl.2.2 _ _ h1) (kk ls hl)
  | lload k =>
    obtain rfl : len = 2 := by simpa [gk_len] using hlen
    obtain ⟨x, h1, h2⟩ := gk_ldl_inv h
    cases h2
    exact lv_lload hx hb hd (hl.2.2 _ _ h1) (kk ls hl)
  | lload_n k =>
    obtain rfl : len = 1 := by simpa [gk_len] using hlen
    obtain ⟨x, h1, h2⟩ := gk_ldl_inv h
    cases h2
    exact lv_lload_n hx hb hd rfl (hl.2.2 _ _ h1) (kk ls hl)
  | aload k =>
    obtain rfl : len = 2 := by simpa [gk_len] using hlen
    rcases gk_lda_inv h with ⟨x, h1, h2⟩ | ⟨h1, h2⟩
    · cases h2
      exact lv_aload hx hb hd (hl.2.2 _ _ h1) (kk ls hl)
    · cases h2
      exact lv_aloadN hx hb hd (hl.2.2 _ _ h1) (kk ls hl)
  | aload_n k =>
    obtain rfl : len = 1 := by simpa [gk_len] using hlen
    rcases gk_lda_inv h with ⟨x, h1, h2⟩ | ⟨h1, h2⟩
    · cases h2
      exact lv_aload_n hx hb hd rfl (hl.2.2 _ _ h1) (kk ls hl)
    · cases h2
      exact lv_aload_nN hx hb hd rfl (hl.2.2 _ _ h1) (kk ls hl)
  | istore k =>
    obtain rfl : len = 2 := by simpa [gk_len] using hlen
    obtain ⟨x, r, rfl, hk, h2⟩ := gk_sti_inv h
    cases h2
    exact lv_istore (x := x) (rest := gk_vs ad st') hx hb hd hh hk rfl (fun ls' h' => kk ls' (gk_after1 (v := .int x) h'))
  | istore_n k =>
    obtain rfl : len = 1 := by simpa [gk_len] using hlen
    obtain ⟨x, r, rfl, hk, h2⟩ := gk_sti_inv h
    cases h2
    exact lv_istore_n (x := x) (rest := gk_vs ad st') hx hb hd rfl hh hk rfl (fun ls' h' => kk ls' (gk_after1 (v := .int x) h'))
  | lstore k =>
    obtain rfl : len = 2 := by simpa [gk_len] using hlen
    obtain ⟨x, r, rfl, hk, h2⟩ := gk_stl_inv h
    cases h2
    exact lv_lstore (x := x) (rest := gk_vs ad st') hx hb hd hh hk rfl (fun ls' h' => kk ls' (gk_after2 (v := .long x) h'))
  | lstore_n k =>
    obtain rfl : len = 1 := by simpa [gk_len] using hlen
    obtain ⟨x, r, rfl, hk, h2⟩ := gk_stl_inv h
    cases h2
    exact lv_lstore_n (x := x) (rest := gk_vs ad st') hx hb hd rfl hh hk rfl (fun ls' h' => kk ls' (gk_after2 (v := .long x) h'))
  | astore k =>
    obtain rfl : len = 2 := by simpa [gk_len] using hlen
    obtain ⟨hk, ⟨x, r, rfl, h2⟩ | ⟨r, rfl, h2⟩⟩ := gk_sta_inv h
    · cases h2
      exact lv_astore (x := ad x) (rest := gk_vs ad st') hx hb hd hh hk rfl (fun ls' h' => kk ls' (gk_after1 (v := .ref x) h'))
    · cases h2
      exact lv_astoreN (rest := gk_vs ad st') hx hb hd hh hk rfl (fun ls' h' => kk ls' (gk_after1 (v := .null) h'))
  | astore_n k =>
    obtain rfl : len = 1 := by simpa [gk_len] using hlen
    obtain ⟨hk, ⟨x, r, rfl, h2⟩ | ⟨r, rfl, h2⟩⟩ := gk_sta_inv h
    · cases h2
      exact lv_astore_n (x := ad x) (rest := gk_vs ad st') hx hb hd rfl hh hk rfl (fun ls' h' => kk ls' (gk_after1 (v := .ref x) h'))
    · cases h2
      exact lv_astore_nN (rest := gk_vs ad st') hx hb hd rfl hh hk rfl (fun ls' h' => kk ls' (gk_after1 (v := .null) h'))
  | iinc k n =>
    obtain rfl : len = 3 := by simpa [gk_len] using hlen
    obtain ⟨x, h1, h2⟩ := gk_inc_inv h
    cases h2
    obtain ⟨j, hj⟩ := gk_pr_at (ad := ad) h1
    have hk : k < lc.length := (List.getElem?_eq_some_iff.mp h1).1
    exact lv_iinc (x := x) hx hb hd hh hj rfl hk rfl (fun ls' h' => kk ls' (gk_after1 (v := .int (x + Int32.ofInt n)) h'))
  | iadd =>
    obtain rfl : len = 1 := by simpa [gk_len] using hlen
    obtain ⟨x, y, r, rfl, h2⟩ := gk_ii_inv h
    cases h2
    exact lv_iadd (x := x) (y := y) (rest := gk_vs ad r) hx hb hd (kk ls hl)
  | isub =>
    obtain rfl : len = 1 := by simpa [gk_len] using hlen
    obtain ⟨x, y, r, rfl, h2⟩ := gk_ii_inv h
    cases h2
    exact lv_isub (x := x) (y := y) (rest := gk_vs ad r) hx hb hd (kk ls hl)
  | imul =>
    obtain rfl : len = 1 := by simpa [gk_len] using hlen
    obtain ⟨x, y, r, rfl, h2⟩ := gk_ii_inv h
    cases h2
    exact lv_imul (x := x) (y := y) (rest := gk_vs ad r) hx hb hd (kk ls hl)
  | iand =>
    obtain rfl : len = 1 := by simpa [gk_len] using hlen
    obtain ⟨x, y, r, rfl, h2⟩ := gk_ii_inv h
    cases h2
    exact lv_iand (x := x) (y := y) (rest := gk_vs ad r) hx hb hd (kk ls hl)
  | ior =>
    obtain rfl : len = 1 := by simpa [gk_len] using hlen
    obtain ⟨x, y, r, rfl, h2⟩ := gk_ii_inv h
    cases h2
    exact lv_ior (x := x) (y := y) (rest := gk_vs ad r) hx hb hd (kk ls hl)
  | ixor =>
    obtain rfl : len = 1 := by simpa [gk_len] using hlen
    obtain ⟨x, y, r, rfl, h2⟩ := gk_ii_inv h
    cases h2
    exact lv_ixor (x := x) (y := y) (rest := gk_vs ad r) hx hb hd (kk ls hl)
  | ishl =>
    obtain rfl : len = 1 := by simpa [gk_len] using hlen
    obtain ⟨x, y, r, rfl, h2⟩ := gk_ii_inv h
    cases h2
    exact lv_ishl (x := x) (y := y) (rest := gk_vs ad r) hx hb hd (kk ls hl)
  | ishr =>
    obtain rfl : len = 1 := by simpa [gk_len] using hlen
    obtain ⟨x, y, r, rfl, h2⟩ := gk_ii_inv h
    cases h2
    exact lv_ishr (x := x) (y := y) (rest := gk_vs ad r) hx hb hd (kk ls hl)
  | idiv =>
    obtain rfl : len = 1 := by simpa [gk_len] using hlen
    obtain ⟨x, y, r, rfl, hy, h2⟩ := gk_iz_inv h
    cases h2
    exact lv_idiv (x := x) (y := y) (rest := gk_vs ad r) hx hb hd hy (kk ls hl)
  | irem =>
    obtain rfl : len = 1 := by simpa [gk_len] using hlen
    obtain ⟨x, y, r, rfl, hy, h2⟩ := gk_iz_inv h
    cases h2
    exact lv_irem (x := x) (y := y) (rest := gk_vs ad r) hx hb hd hy (kk ls hl)
  | ladd =>
    obtain rfl : len = 1 := by simpa [gk_len] using hlen
    obtain ⟨x, y, r, rfl, h2⟩ := gk_ll_inv h
    cases h2
    exact lv_ladd (x := x) (y := y) (rest := gk_vs ad r) hx hb hd (kk ls hl)
  | lsub =>
    obtain rfl : len = 1 := by simpa [gk_len] using hlen
    obtain ⟨x, y, r, rfl, h2⟩ := gk_ll_inv h
    cases h2
    exact lv_lsub (x := x) (y := y) (rest := gk_vs ad r) hx hb hd (kk ls hl)
  | lmul =>
    obtain rfl : len = 1 := by simpa [gk_len] using hlen
    obtain ⟨x, y, r, rfl, h2⟩ := gk_ll_inv h
    cases h2
    exact lv_lmul (x := x) (y := y) (rest := gk_vs ad r) hx hb hd (kk ls hl)
  | lshl =>
    obtain rfl : len = 1 := by simpa [gk_len] using hlen
    obtain ⟨x, y, r, rfl, h2⟩ := gk_li_inv h
    cases h2
    exact lv_lshl (x := x) (y := y) (rest := gk_vs ad r) hx hb hd rfl (kk ls hl)
  | lshr =>
    obtain rfl : len = 1 := by simpa [gk_len] using hlen
    obtain ⟨x, y, r, rfl, h2⟩ := gk_li_inv h
    cases h2
    exact lv_lshr (x := x) (y := y) (rest := gk_vs ad r) hx hb hd rfl (kk ls hl)
  | i2l =>
    obtain rfl : len = 1 := by simpa [gk_len] using hlen
    obtain ⟨x, r, rfl, h2⟩ := gk_ui_inv h
    cases h2
    exact lv_i2l (x := x) (rest := gk_vs ad r) hx hb hd rfl (kk ls hl)
  | i2c =>
    obtain rfl : len = 1 := by simpa [gk_len] using hlen
    obtain ⟨x, r, rfl, h2⟩ := gk_ui_inv h
    cases h2
    exact lv_i2c (x := x) (rest := gk_vs ad r) hx hb hd rfl (kk ls hl)
  | l2i =>
    obtain rfl : len = 1 := by simpa [gk_len] using hlen
    obtain ⟨x, r, rfl, h2⟩ := gk_ul_inv h
    cases h2
    exact lv_l2i (x := x) (rest := gk_vs ad r) hx hb hd rfl (kk ls hl)
  | lcmp =>
    obtain rfl : len = 1 := by simpa [gk_len] using hlen
    obtain ⟨x, y, r, rfl, h2⟩ := gk_lc_inv h
    cases h2
    exact W.lcmp (x := x) (y := y) (rest := gk_vs ad r) hx hb hd (kk ls hl)
  | dup =>
    obtain rfl : len = 1 := by simpa [gk_len] using hlen
    obtain ⟨v, r, rfl, hv, h2⟩ := gk_dup_inv h
    cases h2
    exact lv_dup (va := gk_v ad v) (rest := gk_vs ad r) hx hb hd (by rw [gk_v_cat]; exact hv) (kk ls hl)
  | pop =>
    obtain rfl : len = 1 := by simpa [gk_len] using hlen
    obtain ⟨v, r, rfl, hv, h2⟩ := gk_pop_inv h
    cases h2
    exact lv_pop (va := gk_v ad v) (rest := gk_vs ad st') hx hb hd (by rw [gk_v_cat]; exact hv) (kk ls hl)
  | dup2 =>
    obtain rfl : len = 1 := by simpa [gk_len] using hlen
    obtain ⟨v, u, r, rfl, hv, hu, h2⟩ := gk_dup2_inv h
    cases h2
    exact lv_dup2_11 (va := gk_v ad v) (vb := gk_v ad u) (rest := gk_vs ad r) hx hb hd (by rw [gk_v_cat]; exact hv) (by rw [gk_v_cat]; exact hu) (kk ls hl)
  | ifCond cd off =>
    obtain rfl : len = 3 := by simpa [gk_len] using hlen
    obtain ⟨x, r, t, rfl, ht, h2⟩ := gk_if_inv h
    cases h2
    have k2 : ∀ b : Bool, gk_cmp cd x 0 = b → W p l e R s m args below meth c H locs cells slots Q (F0 m (if b = true then t else pc + 3) ls (gk_vs ad st')) := fun b hb' => by rw [← hb']; exact kk ls hl
    cases cd with
    | eq => exact lv_if_eq (x := x) (rest := gk_vs ad st') hx hb hd ht (fun q => k2 true (decide_eq_true q)) (fun q => k2 false (decide_eq_false q))
    | ne => exact lv_if_ne (x := x) (rest := gk_vs ad st') hx hb hd ht (fun q => k2 true (decide_eq_true q)) (fun q => k2 false (decide_eq_false (fun z => z q)))
    | lt => exact lv_if_lt (x := x) (rest := gk_vs ad st') hx hb hd ht (fun q => k2 true (decide_eq_true q)) (fun q => k2 false (decide_eq_false q))
    | ge => exact lv_if_ge (x := x) (rest := gk_vs ad st') hx hb hd ht (fun q => k2 true (decide_eq_true q)) (fun q => k2 false (decide_eq_false q))
    | gt => exact lv_if_gt (x := x) (rest := gk_vs ad st') hx hb hd ht (fun q => k2 true (decide_eq_true q)) (fun q => k2 false (decide_eq_false q))
    | le => exact lv_if_le (x := x) (rest := gk_vs ad st') hx hb hd ht (fun q => k2 true (decide_eq_true q)) (fun q => k2 false (decide_eq_false q))
  | if_icmp cd off =>
    obtain rfl : len = 3 := by simpa [gk_len] using hlen
    obtain ⟨x, y, r, t, rfl, ht, h2⟩ := gk_ic_inv h
    cases h2
    have k2 : ∀ b : Bool, gk_cmp cd x y = b → W p l e R s m args below meth c H locs cells slots Q (F0 m (if b = true then t else pc + 3) ls (gk_vs ad st')) := fun b hb' => by rw [← hb']; exact kk ls hl
    cases cd with
    | eq => exact lv_icmp_eq (x := x) (y := y) (rest := gk_vs ad st') hx hb hd ht (fun q => k2 true (decide_eq_true q)) (fun q => k2 false (decide_eq_false q))
    | ne => exact lv_icmp_ne (x := x) (y := y) (rest := gk_vs ad st') hx hb hd ht (fun q => k2 true (decide_eq_true q)) (fun q => k2 false (decide_eq_false (fun z => z q)))
    | lt => exact lv_icmp_lt (x := x) (y := y) (rest := gk_vs ad st') hx hb hd ht (fun q => k2 true (decide_eq_true q)) (fun q => k2 false (decide_eq_false q))
    | ge => exact lv_icmp_ge (x := x) (y := y) (rest := gk_vs ad st') hx hb hd ht (fun q => k2 true (decide_eq_true q)) (fun q => k2 false (decide_eq_false q))
    | gt => exact lv_icmp_gt (x := x) (y := y) (rest := gk_vs ad st') hx hb hd ht (fun q => k2 true (decide_eq_true q)) (fun q => k2 false (decide_eq_false q))
    | le => exact lv_icmp_le (x := x) (y := y) (rest := gk_vs ad st') hx hb hd ht (fun q => k2 true (decide_eq_true q)) (fun q => k2 false (decide_eq_false q))
  | goto off =>
    obtain rfl : len = 3 := by simpa [gk_len] using hlen
    obtain ⟨t, ht, h2⟩ := gk_to_inv h
    cases h2
    exact lv_goto hx hb hd ht (kk ls hl)
  | tableswitch d lo hi offs =>
    obtain ⟨x, r, t, rfl, h2, ⟨ho, ht⟩ | ⟨ho, off, h3, ht⟩⟩ := gk_sw_inv h
    · cases h2
      exact lv_tableOut (x := x) (rest := gk_vs ad st') hx hb hd ho ht (kk ls hl)
    · cases h2
      exact lv_tableIn (x := x) (rest := gk_vs ad st') hx hb hd (fun q => ho (Or.inl q)) (fun q => ho (Or.inr q)) h3 ht (kk ls hl)
  | _ => cases h
end GK2
