section
/-! An abstract interpreter of the bytecode, part 1: values, locals, the instructions that touch neither heap nor calls. A reference '.ref k' is a number of the abstract world; 'ad' says at which address it lies. -/
abbrev gk_Lc : Type := List (Option Value)
def gk_v (ad : Nat → Nat) : Value → Value
  | .ref k => .ref (ad k)
  | v => v
theorem gk_v_cat (ad : Nat → Nat) (v : Value) : (gk_v ad v).category = v.category := by cases v <;> rfl
def gk_vs (ad : Nat → Nat) (st : List Value) : List Value := st.map (gk_v ad)
theorem gk_vs_cons (ad : Nat → Nat) (v : Value) (st : List Value) : gk_vs ad (v :: st) = gk_v ad v :: gk_vs ad st := rfl
def gk_L (ad : Nat → Nat) (ls : Array Slot) (l : gk_Lc) : Prop := ls.size = l.length ∧ lv_wf ls ∧ ∀ (i : Nat) (v : Value), l[i]? = some (some v) → ls[i]? = some (.val (gk_v ad v))
def gk_c1 (o : Option Value) : Option Value := match o with
  | some v => if v.category = 2 then none else some v
  | none => none
def gk_st1 (v : Value) : Nat → gk_Lc → gk_Lc
  | _, [] => []
  | 0, _ :: r => some v :: r
  | 1, o :: r => gk_c1 o :: gk_st1 v 0 r
  | i + 2, o :: r => o :: gk_st1 v (i + 1) r
def gk_st2 (v : Value) (i : Nat) (l : gk_Lc) : gk_Lc := (gk_st1 v i l).set (i + 1) none
theorem gk_st1_len (v : Value) : ∀ (l : gk_Lc) (i : Nat), (gk_st1 v i l).length = l.length
  | [], i => by cases i <;> rfl
  | _ :: _, 0 => rfl
  | _ :: r, 1 => by simp [gk_st1, gk_st1_len v r 0]
  | _ :: r, i + 2 => by simp [gk_st1, gk_st1_len v r (i + 1)]
theorem gk_st2_len (v : Value) (l : gk_Lc) (i : Nat) : (gk_st2 v i l).length = l.length := by simp [gk_st2, gk_st1_len]
theorem gk_c1_some {o : Option Value} {u : Value} (h : gk_c1 o = some u) : o = some u ∧ u.category ≠ 2 := by
  unfold gk_c1 at h
  cases o with
  | none => cases h
  | some v =>
    dsimp only at h
    split at h
    · cases h
    · rename_i hc
      cases h
      exact ⟨rfl, hc⟩
theorem gk_st1_get (v : Value) : ∀ (l : gk_Lc) (i j : Nat) (u : Value), (gk_st1 v i l)[j]? = some (some u) → (j = i ∧ u = v) ∨ (j ≠ i ∧ l[j]? = some (some u) ∧ (j + 1 = i → u.category ≠ 2))
  | [], i, j, u, h => by cases i <;> simp [gk_st1] at h
  | o :: r, 0, 0, u, h => by
    simp [gk_st1] at h
    exact Or.inl ⟨rfl, h.symm⟩
  | o :: r, 0, j + 1, u, h => by
    simp [gk_st1] at h
    exact Or.inr ⟨by omega, by simpa using h, by omega⟩
  | o :: r, 1, 0, u, h => by
    simp [gk_st1] at h
    obtain ⟨h1, h2⟩ := gk_c1_some h
    exact Or.inr ⟨by omega, by simp [h1], fun _ => h2⟩
  | o :: r, 1, j + 1, u, h => by
    simp only [gk_st1, List.getElem?_cons_succ] at h
    rcases gk_st1_get v r 0 j u h with ⟨h1, h2⟩ | ⟨h1, h2, h3⟩
    · exact Or.inl ⟨by omega, h2⟩
    · exact Or.inr ⟨by omega, by simpa using h2, by omega⟩
  | o :: r, i + 2, 0, u, h => by
    simp [gk_st1] at h
    exact Or.inr ⟨by omega, by simp [h], by omega⟩
  | o :: r, i + 2, j + 1, u, h => by
    simp only [gk_st1, List.getElem?_cons_succ] at h
    rcases gk_st1_get v r (i + 1) j u h with ⟨h1, h2⟩ | ⟨h1, h2, h3⟩
    · exact Or.inl ⟨by omega, h2⟩
    · exact Or.inr ⟨by omega, by simpa using h2, fun q => h3 (by omega)⟩
def gk_pr (ad : Nat → Nat) : Nat → gk_Lc → List (Nat × Value)
  | _, [] => []
  | i, none :: r => gk_pr ad (i + 1) r
  | i, some v :: r => (i, gk_v ad v) :: gk_pr ad (i + 1) r
theorem gk_pr_mem (ad : Nat → Nat) : ∀ (l : gk_Lc) (i : Nat) (q : Nat × Value), q ∈ gk_pr ad i l → ∃ (k : Nat) (v : Value), q = (i + k, gk_v ad v) ∧ l[k]? = some (some v)
  | [], i, q, h => by simp [gk_pr] at h
  | none :: r, i, q, h => by
    simp only [gk_pr] at h
    obtain ⟨k, v, h1, h2⟩ := gk_pr_mem ad r (i + 1) q h
    exact ⟨k + 1, v, by rw [h1]; congr 1; omega, by simpa using h2⟩
  | some u :: r, i, q, h => by
    simp only [gk_pr, List.mem_cons] at h
    rcases h with h | h
    · exact ⟨0, u, by rw [h]; rfl, rfl⟩
    · obtain ⟨k, v, h1, h2⟩ := gk_pr_mem ad r (i + 1) q h
      exact ⟨k + 1, v, by rw [h1]; congr 1; omega, by simpa using h2⟩
theorem gk_pr_in (ad : Nat → Nat) : ∀ (l : gk_Lc) (i k : Nat) (v : Value), l[k]? = some (some v) → (i + k, gk_v ad v) ∈ gk_pr ad i l
  | [], i, k, v, h => by simp at h
  | none :: r, i, 0, v, h => by simp at h
  | none :: r, i, k + 1, v, h => by
    have := gk_pr_in ad r (i + 1) k v (by simpa using h)
    simp only [gk_pr]
    rwa [show i + (k + 1) = i + 1 + k by omega]
  | some u :: r, i, 0, v, h => by
    simp at h
    subst h
    simp [gk_pr]
  | some u :: r, i, k + 1, v, h => by
    have := gk_pr_in ad r (i + 1) k v (by simpa using h)
    simp only [gk_pr, List.mem_cons]
    exact Or.inr (by rwa [show i + (k + 1) = i + 1 + k by omega])
theorem gk_has {ad : Nat → Nat} {ls : Array Slot} {l : gk_Lc} (h : gk_L ad ls l) : lv_has ls l.length (gk_pr ad 0 l) := by
  refine ⟨h.1, h.2.1, fun q hq => ?_⟩
  obtain ⟨k, v, h1, h2⟩ := gk_pr_mem ad l 0 q hq
  subst h1
  simpa using h.2.2 k v h2
theorem gk_after1 {ad : Nat → Nat} {ls : Array Slot} {l : gk_Lc} {i : Nat} {v : Value} (h : lv_has ls l.length ((i, gk_v ad v) :: (gk_pr ad 0 l).filter (fun q => !(q.1 == i) && !(q.1 + 1 == i && q.2.category == 2)))) : gk_L ad ls (gk_st1 v i l) := by
  refine ⟨by rw [gk_st1_len]; exact h.1, h.2.1, fun j u hj => ?_⟩
  rcases gk_st1_get v l i j u hj with ⟨h1, h2⟩ | ⟨h1, h2, h3⟩
  · subst h1; subst h2
    exact h.2.2 (j, gk_v ad u) List.mem_cons_self
  · refine h.2.2 (j, gk_v ad u) (List.mem_cons_of_mem _ (List.mem_filter.mpr ⟨by simpa using gk_pr_in ad l 0 j u h2, ?_⟩))
    simp only [Bool.and_eq_true, Bool.not_eq_true', beq_eq_false_iff_ne, ne_eq, Bool.and_eq_false_iff, gk_v_cat]
    refine ⟨h1, ?_⟩
    by_cases hq : j + 1 = i
    · exact Or.inr (h3 hq)
    · exact Or.inl hq
theorem gk_after2 {ad : Nat → Nat} {ls : Array Slot} {l : gk_Lc} {i : Nat} {v : Value} (h : lv_has ls l.length ((i, gk_v ad v) :: (gk_pr ad 0 l).filter (fun q => !(q.1 == i) && (!(q.1 == i + 1) && !(q.1 + 1 == i && q.2.category == 2))))) : gk_L ad ls (gk_st2 v i l) := by
  refine ⟨by rw [gk_st2_len]; exact h.1, h.2.1, fun j u hj => ?_⟩
  have hj0 : j ≠ i + 1 ∧ (gk_st1 v i l)[j]? = some (some u) := by
    unfold gk_st2 at hj
    rw [List.getElem?_set] at hj
    split at hj
    · split at hj <;> cases hj
    · rename_i hne
      exact ⟨fun e => hne e.symm, hj⟩
  rcases gk_st1_get v l i j u hj0.2 with ⟨h1, h2⟩ | ⟨h1, h2, h3⟩
  · subst h1; subst h2
    exact h.2.2 (j, gk_v ad u) List.mem_cons_self
  · refine h.2.2 (j, gk_v ad u) (List.mem_cons_of_mem _ (List.mem_filter.mpr ⟨by simpa using gk_pr_in ad l 0 j u h2, ?_⟩))
    simp only [Bool.and_eq_true, Bool.not_eq_true', beq_eq_false_iff_ne, ne_eq, Bool.and_eq_false_iff, gk_v_cat]
    refine ⟨h1, hj0.1, ?_⟩
    by_cases hq : j + 1 = i
    · exact Or.inr (h3 hq)
    · exact Or.inl hq
def gk_jmp (pc : Nat) (off : Int) : Option Nat := match (pc : Int) + off with
  | .ofNat t => some t
  | .negSucc _ => none
theorem gk_jmp_eq {pc t : Nat} {off : Int} (h : gk_jmp pc off = some t) : (pc : Int) + off = (t : Int) := by
  unfold gk_jmp at h
  split at h
  · rename_i k hk
    cases h
    exact hk
  · cases h
abbrev gk_Pt : Type := Nat × gk_Lc × List Value
def gk_to (pc : Nat) (off : Int) (l : gk_Lc) (r : List Value) : Option gk_Pt := match gk_jmp pc off with
  | some t => some (t, l, r)
  | none => none
def gk_br (pc : Nat) (off : Int) (l : gk_Lc) (r : List Value) (b : Bool) : Option gk_Pt := match gk_jmp pc off with
  | some t => some (if b = true then t else pc + 3, l, r)
  | none => none
def gk_cmp (c : ClassFile.Cond) (x y : Int32) : Bool := match c with
  | .eq => decide (x = y)
  | .ne => decide (¬ x = y)
  | .lt => decide (x < y)
  | .ge => decide (y ≤ x)
  | .gt => decide (y < x)
  | .le => decide (x ≤ y)
def gk_ldi (l : gk_Lc) (k : Nat) : Option Value := match l[k]? with
  | some (some (.int x)) => some (.int x)
  | _ => none
def gk_ldl (l : gk_Lc) (k : Nat) : Option Value := match l[k]? with
  | some (some (.long x)) => some (.long x)
  | _ => none
def gk_lda (l : gk_Lc) (k : Nat) : Option Value := match l[k]? with
  | some (some (.ref x)) => some (.ref x)
  | some (some .null) => some .null
  | _ => none
def gk_ld (n : Nat) (l : gk_Lc) (st : List Value) (o : Option Value) : Option gk_Pt := match o with
  | some v => some (n, l, v :: st)
  | none => none
def gk_sti (n : Nat) (k : Nat) (l : gk_Lc) (st : List Value) : Option gk_Pt := match st with
  | .int x :: r => if k < l.length then some (n, gk_st1 (.int x) k l, r) else none
  | _ => none
def gk_sta (n : Nat) (k : Nat) (l : gk_Lc) (st : List Value) : Option gk_Pt := match st with
  | .ref x :: r => if k < l.length then some (n, gk_st1 (.ref x) k l, r) else none
  | .null :: r => if k < l.length then some (n, gk_st1 .null k l, r) else none
  | _ => none
def gk_stl (n : Nat) (k : Nat) (l : gk_Lc) (st : List Value) : Option gk_Pt := match st with
  | .long x :: r => if k + 1 < l.length then some (n, gk_st2 (.long x) k l, r) else none
  | _ => none
def gk_ii (pc : Nat) (l : gk_Lc) (st : List Value) (f : Int32 → Int32 → Int32) : Option gk_Pt := match st with
  | .int y :: .int x :: r => some (pc + 1, l, .int (f x y) :: r)
  | _ => none
def gk_iz (pc : Nat) (l : gk_Lc) (st : List Value) (f : Int32 → Int32 → Int32) : Option gk_Pt := match st with
  | .int y :: .int x :: r => if y = 0 then none else some (pc + 1, l, .int (f x y) :: r)
  | _ => none
def gk_ll (pc : Nat) (l : gk_Lc) (st : List Value) (f : Int64 → Int64 → Int64) : Option gk_Pt := match st with
  | .long y :: .long x :: r => some (pc + 1, l, .long (f x y) :: r)
  | _ => none
def gk_li (pc : Nat) (l : gk_Lc) (st : List Value) (f : Int64 → Int32 → Int64) : Option gk_Pt := match st with
  | .int y :: .long x :: r => some (pc + 1, l, .long (f x y) :: r)
  | _ => none
def gk_ui (pc : Nat) (l : gk_Lc) (st : List Value) (f : Int32 → Value) : Option gk_Pt := match st with
  | .int x :: r => some (pc + 1, l, f x :: r)
  | _ => none
def gk_ul (pc : Nat) (l : gk_Lc) (st : List Value) (f : Int64 → Value) : Option gk_Pt := match st with
  | .long x :: r => some (pc + 1, l, f x :: r)
  | _ => none
def gk_lc (pc : Nat) (l : gk_Lc) (st : List Value) : Option gk_Pt := match st with
  | .long y :: .long x :: r => some (pc + 1, l, .int (lg_cmp x y) :: r)
  | _ => none
def gk_dup (pc : Nat) (l : gk_Lc) (st : List Value) : Option gk_Pt := match st with
  | v :: r => if v.category = 1 then some (pc + 1, l, v :: v :: r) else none
  | _ => none
def gk_pop (pc : Nat) (l : gk_Lc) (st : List Value) : Option gk_Pt := match st with
  | v :: r => if v.category = 1 then some (pc + 1, l, r) else none
  | _ => none
def gk_dup2 (pc : Nat) (l : gk_Lc) (st : List Value) : Option gk_Pt := match st with
  | v :: u :: r => if v.category = 1 ∧ u.category = 1 then some (pc + 1, l, v :: u :: v :: u :: r) else none
  | _ => none
def gk_if (pc : Nat) (l : gk_Lc) (st : List Value) (c : ClassFile.Cond) (off : Int) : Option gk_Pt := match st with
  | .int x :: r => gk_br pc off l r (gk_cmp c x 0)
  | _ => none
def gk_ic (pc : Nat) (l : gk_Lc) (st : List Value) (c : ClassFile.Cond) (off : Int) : Option gk_Pt := match st with
  | .int y :: .int x :: r => gk_br pc off l r (gk_cmp c x y)
  | _ => none
def gk_inc (pc : Nat) (l : gk_Lc) (st : List Value) (k : Nat) (n : Int) : Option gk_Pt := match l[k]? with
  | some (some (.int x)) => some (pc + 3, gk_st1 (.int (x + Int32.ofInt n)) k l, st)
  | _ => none
def gk_sw (pc : Nat) (l : gk_Lc) (st : List Value) (d lo hi : Int) (offs : Array Int) : Option gk_Pt := match st with
  | .int x :: r => if x.toInt < lo ∨ hi < x.toInt then gk_to pc d l r else (match offs[(x.toInt - lo).toNat]? with
    | some off => gk_to pc off l r
    | none => none)
  | _ => none
/-- the length that an instruction has in the code (0: whatever it is) -/
def gk_len (i : Instr) : Nat := match i with
  | .bipush _ | .iload _ | .lload _ | .aload _ | .istore _ | .lstore _ | .astore _ | .ldc _ | .newarray _ => 2
  | .sipush _ | .iinc _ _ | .ifCond _ _ | .if_icmp _ _ | .goto _ | .ldc_w _ | .ldc2_w _ | .getfield _ | .putfield _ | .invokevirtual _ | .invokespecial _ | .invokestatic _ | .new _ => 3
  | .tableswitch _ _ _ _ => 0
  | _ => 1
/-- an instruction without heap and calls: where it goes on, with which locals and operands -/
def gk_pure (pc : Nat) (l : gk_Lc) (st : List Value) (i : Instr) : Option gk_Pt := match i with
  | .iconst n => some (pc + 1, l, .int (Int32.ofInt n) :: st)
  | .bipush n => some (pc + 2, l, .int (Int8.ofInt n).toInt32 :: st)
  | .sipush n => some (pc + 3, l, .int (Int16.ofInt n).toInt32 :: st)
  | .lconst n => some (pc + 1, l, .long (Int64.ofNat (n : Nat)) :: st)
  | .iload k => gk_ld (pc + 2) l st (gk_ldi l k)
  | .iload_n k => gk_ld (pc + 1) l st (gk_ldi l k)
  | .lload k => gk_ld (pc + 2) l st (gk_ldl l k)
  | .lload_n k => gk_ld (pc + 1) l st (gk_ldl l k)
  | .aload k => gk_ld (pc + 2) l st (gk_lda l k)
  | .aload_n k => gk_ld (pc + 1) l st (gk_lda l k)
  | .istore k => gk_sti (pc + 2) k l st
  | .istore_n k => gk_sti (pc + 1) k l st
  | .lstore k => gk_stl (pc + 2) k l st
  | .lstore_n k => gk_stl (pc + 1) k l st
  | .astore k => gk_sta (pc + 2) k l st
  | .astore_n k => gk_sta (pc + 1) k l st
  | .iinc k n => gk_inc pc l st k n
  | .iadd => gk_ii pc l st (fun x y => x + y)
  | .isub => gk_ii pc l st (fun x y => x - y)
  | .imul => gk_ii pc l st (fun x y => x * y)
  | .iand => gk_ii pc l st (fun x y => x &&& y)
  | .ior => gk_ii pc l st (fun x y => x ||| y)
  | .ixor => gk_ii pc l st (fun x y => x ^^^ y)
  | .ishl => gk_ii pc l st (fun x y => x <<< (y &&& 31))
  | .ishr => gk_ii pc l st (fun x y => x >>> (y &&& 31))
  | .idiv => gk_iz pc l st (fun x y => x / y)
  | .irem => gk_iz pc l st (fun x y => x - x / y * y)
  | .ladd => gk_ll pc l st (fun x y => x + y)
  | .lsub => gk_ll pc l st (fun x y => x - y)
  | .lmul => gk_ll pc l st (fun x y => x * y)
  | .lshl => gk_li pc l st (fun x y => x <<< (y.toInt64 &&& 63))
  | .lshr => gk_li pc l st (fun x y => x >>> (y.toInt64 &&& 63))
  | .i2l => gk_ui pc l st (fun x => .long x.toInt64)
  | .i2c => gk_ui pc l st (fun x => .int (x.toUInt32 % 65536).toInt32)
  | .l2i => gk_ul pc l st (fun x => .int x.toInt32)
  | .lcmp => gk_lc pc l st
  | .dup => gk_dup pc l st
  | .pop => gk_pop pc l st
  | .dup2 => gk_dup2 pc l st
  | .ifCond c off => gk_if pc l st c off
  | .if_icmp c off => gk_ic pc l st c off
  | .goto off => gk_to pc off l st
  | .tableswitch d lo hi offs => gk_sw pc l st d lo hi offs
  | _ => none
end
section
/-! part 2: the instructions without heap and calls are what gk_pure says of them -/
theorem gk_ii_inv {pc : Nat} {l : gk_Lc} {st : List Value} {f : Int32 → Int32 → Int32} {q : gk_Pt} (h : gk_ii pc l st f = some q) : ∃ (x y : Int32) (r : List Value), st = .int y :: .int x :: r ∧ q = (pc + 1, l, .int (f x y) :: r) := by
  unfold gk_ii at h
  split at h
  · cases h; exact ⟨_, _, _, rfl, rfl⟩
  · cases h
theorem gk_iz_inv {pc : Nat} {l : gk_Lc} {st : List Value} {f : Int32 → Int32 → Int32} {q : gk_Pt} (h : gk_iz pc l st f = some q) : ∃ (x y : Int32) (r : List Value), st = .int y :: .int x :: r ∧ ¬ y = 0 ∧ q = (pc + 1, l, .int (f x y) :: r) := by
  unfold gk_iz at h
  split at h
  · split at h
    · cases h
    · rename_i hn
      cases h; exact ⟨_, _, _, rfl, hn, rfl⟩
  · cases h
theorem gk_ll_inv {pc : Nat} {l : gk_Lc} {st : List Value} {f : Int64 → Int64 → Int64} {q : gk_Pt} (h : gk_ll pc l st f = some q) : ∃ (x y : Int64) (r : List Value), st = .long y :: .long x :: r ∧ q = (pc + 1, l, .long (f x y) :: r) := by
  unfold gk_ll at h
  split at h
  · cases h; exact ⟨_, _, _, rfl, rfl⟩
  · cases h
theorem gk_li_inv {pc : Nat} {l : gk_Lc} {st : List Value} {f : Int64 → Int32 → Int64} {q : gk_Pt} (h : gk_li pc l st f = some q) : ∃ (x : Int64) (y : Int32) (r : List Value), st = .int y :: .long x :: r ∧ q = (pc + 1, l, .long (f x y) :: r) := by
  unfold gk_li at h
  split at h
  · cases h; exact ⟨_, _, _, rfl, rfl⟩
  · cases h
theorem gk_ui_inv {pc : Nat} {l : gk_Lc} {st : List Value} {f : Int32 → Value} {q : gk_Pt} (h : gk_ui pc l st f = some q) : ∃ (x : Int32) (r : List Value), st = .int x :: r ∧ q = (pc + 1, l, f x :: r) := by
  unfold gk_ui at h
  split at h
  · cases h; exact ⟨_, _, rfl, rfl⟩
  · cases h
theorem gk_ul_inv {pc : Nat} {l : gk_Lc} {st : List Value} {f : Int64 → Value} {q : gk_Pt} (h : gk_ul pc l st f = some q) : ∃ (x : Int64) (r : List Value), st = .long x :: r ∧ q = (pc + 1, l, f x :: r) := by
  unfold gk_ul at h
  split at h
  · cases h; exact ⟨_, _, rfl, rfl⟩
  · cases h
theorem gk_lc_inv {pc : Nat} {l : gk_Lc} {st : List Value} {q : gk_Pt} (h : gk_lc pc l st = some q) : ∃ (x y : Int64) (r : List Value), st = .long y :: .long x :: r ∧ q = (pc + 1, l, .int (lg_cmp x y) :: r) := by
  unfold gk_lc at h
  split at h
  · cases h; exact ⟨_, _, _, rfl, rfl⟩
  · cases h
theorem gk_dup_inv {pc : Nat} {l : gk_Lc} {st : List Value} {q : gk_Pt} (h : gk_dup pc l st = some q) : ∃ (v : Value) (r : List Value), st = v :: r ∧ v.category = 1 ∧ q = (pc + 1, l, v :: v :: r) := by
  unfold gk_dup at h
  split at h
  · split at h
    · rename_i hc
      cases h; exact ⟨_, _, rfl, hc, rfl⟩
    · cases h
  · cases h
theorem gk_pop_inv {pc : Nat} {l : gk_Lc} {st : List Value} {q : gk_Pt} (h : gk_pop pc l st = some q) : ∃ (v : Value) (r : List Value), st = v :: r ∧ v.category = 1 ∧ q = (pc + 1, l, r) := by
  unfold gk_pop at h
  split at h
  · split at h
    · rename_i hc
      cases h; exact ⟨_, _, rfl, hc, rfl⟩
    · cases h
  · cases h
theorem gk_dup2_inv {pc : Nat} {l : gk_Lc} {st : List Value} {q : gk_Pt} (h : gk_dup2 pc l st = some q) : ∃ (v u : Value) (r : List Value), st = v :: u :: r ∧ v.category = 1 ∧ u.category = 1 ∧ q = (pc + 1, l, v :: u :: v :: u :: r) := by
  unfold gk_dup2 at h
  split at h
  · split at h
    · rename_i hc
      cases h; exact ⟨_, _, _, rfl, hc.1, hc.2, rfl⟩
    · cases h
  · cases h
theorem gk_to_inv {pc : Nat} {off : Int} {l : gk_Lc} {r : List Value} {q : gk_Pt} (h : gk_to pc off l r = some q) : ∃ t : Nat, (pc : Int) + off = (t : Int) ∧ q = (t, l, r) := by
  unfold gk_to at h
  split at h
  · rename_i t ht
    cases h; exact ⟨t, gk_jmp_eq ht, rfl⟩
  · cases h
theorem gk_br_inv {pc : Nat} {off : Int} {l : gk_Lc} {r : List Value} {b : Bool} {q : gk_Pt} (h : gk_br pc off l r b = some q) : ∃ t : Nat, (pc : Int) + off = (t : Int) ∧ q = (if b = true then t else pc + 3, l, r) := by
  unfold gk_br at h
  split at h
  · rename_i t ht
    cases h; exact ⟨t, gk_jmp_eq ht, rfl⟩
  · cases h
theorem gk_if_inv {pc : Nat} {l : gk_Lc} {st : List Value} {c : ClassFile.Cond} {off : Int} {q : gk_Pt} (h : gk_if pc l st c off = some q) : ∃ (x : Int32) (r : List Value) (t : Nat), st = .int x :: r ∧ (pc : Int) + off = (t : Int) ∧ q = (if gk_cmp c x 0 = true then t else pc + 3, l, r) := by
  unfold gk_if at h
  split at h
  · obtain ⟨t, h1, h2⟩ := gk_br_inv h
    exact ⟨_, _, t, rfl, h1, h2⟩
  · cases h
theorem gk_ic_inv {pc : Nat} {l : gk_Lc} {st : List Value} {c : ClassFile.Cond} {off : Int} {q : gk_Pt} (h : gk_ic pc l st c off = some q) : ∃ (x y : Int32) (r : List Value) (t : Nat), st = .int y :: .int x :: r ∧ (pc : Int) + off = (t : Int) ∧ q = (if gk_cmp c x y = true then t else pc + 3, l, r) := by
  unfold gk_ic at h
  split at h
  · obtain ⟨t, h1, h2⟩ := gk_br_inv h
    exact ⟨_, _, _, t, rfl, h1, h2⟩
  · cases h
theorem gk_ldi_inv {l : gk_Lc} {n k : Nat} {st : List Value} {q : gk_Pt} (h : gk_ld n l st (gk_ldi l k) = some q) : ∃ x : Int32, l[k]? = some (some (.int x)) ∧ q = (n, l, .int x :: st) := by
  unfold gk_ld gk_ldi at h
  split at h
  · rename_i v hv
    split at hv
    · rename_i x hx
      cases hv; cases h; exact ⟨x, hx, rfl⟩
    · cases hv
  · cases h
theorem gk_ldl_inv {l : gk_Lc} {n k : Nat} {st : List Value} {q : gk_Pt} (h : gk_ld n l st (gk_ldl l k) = some q) : ∃ x : Int64, l[k]? = some (some (.long x)) ∧ q = (n, l, .long x :: st) := by
  unfold gk_ld gk_ldl at h
  split at h
  · rename_i v hv
    split at hv
    · rename_i x hx
      cases hv; cases h; exact ⟨x, hx, rfl⟩
    · cases hv
  · cases h
theorem gk_lda_inv {l : gk_Lc} {n k : Nat} {st : List Value} {q : gk_Pt} (h : gk_ld n l st (gk_lda l k) = some q) : (∃ x : Nat, l[k]? = some (some (.ref x)) ∧ q = (n, l, .ref x :: st)) ∨ (l[k]? = some (some .null) ∧ q = (n, l, .null :: st)) := by
  unfold gk_ld gk_lda at h
  split at h
  · rename_i v hv
    split at hv
    · rename_i x hx
      cases hv; cases h; exact Or.inl ⟨x, hx, rfl⟩
    · rename_i hx
      cases hv; cases h; exact Or.inr ⟨hx, rfl⟩
    · cases hv
  · cases h
theorem gk_sti_inv {l : gk_Lc} {n k : Nat} {st : List Value} {q : gk_Pt} (h : gk_sti n k l st = some q) : ∃ (x : Int32) (r : List Value), st = .int x :: r ∧ k < l.length ∧ q = (n, gk_st1 (.int x) k l, r) := by
  unfold gk_sti at h
  split at h
  · split at h
    · rename_i hk
      cases h; exact ⟨_, _, rfl, hk, rfl⟩
    · cases h
  · cases h
theorem gk_stl_inv {l : gk_Lc} {n k : Nat} {st : List Value} {q : gk_Pt} (h : gk_stl n k l st = some q) : ∃ (x : Int64) (r : List Value), st = .long x :: r ∧ k + 1 < l.length ∧ q = (n, gk_st2 (.long x) k l, r) := by
  unfold gk_stl at h
  split at h
  · split at h
    · rename_i hk
      cases h; exact ⟨_, _, rfl, hk, rfl⟩
    · cases h
  · cases h
theorem gk_sta_inv {l : gk_Lc} {n k : Nat} {st : List Value} {q : gk_Pt} (h : gk_sta n k l st = some q) : k < l.length ∧ ((∃ (x : Nat) (r : List Value), st = .ref x :: r ∧ q = (n, gk_st1 (.ref x) k l, r)) ∨ ∃ r : List Value, st = .null :: r ∧ q = (n, gk_st1 .null k l, r)) := by
  unfold gk_sta at h
  split at h
  · split at h
    · rename_i hk
      cases h; exact ⟨hk, Or.inl ⟨_, _, rfl, rfl⟩⟩
    · cases h
  · split at h
    · rename_i hk
      cases h; exact ⟨hk, Or.inr ⟨_, rfl, rfl⟩⟩
    · cases h
  · cases h
theorem gk_inc_inv {pc : Nat} {l : gk_Lc} {st : List Value} {k : Nat} {n : Int} {q : gk_Pt} (h : gk_inc pc l st k n = some q) : ∃ x : Int32, l[k]? = some (some (.int x)) ∧ q = (pc + 3, gk_st1 (.int (x + Int32.ofInt n)) k l, st) := by
  unfold gk_inc at h
  split at h
  · rename_i x hx
    cases h; exact ⟨x, hx, rfl⟩
  · cases h
theorem gk_sw_inv {pc : Nat} {l : gk_Lc} {st : List Value} {d lo hi : Int} {offs : Array Int} {q : gk_Pt} (h : gk_sw pc l st d lo hi offs = some q) : ∃ (x : Int32) (r : List Value) (t : Nat), st = .int x :: r ∧ q = (t, l, r) ∧ (((x.toInt < lo ∨ hi < x.toInt) ∧ (pc : Int) + d = (t : Int)) ∨ (¬ (x.toInt < lo ∨ hi < x.toInt) ∧ ∃ off : Int, offs[(x.toInt - lo).toNat]? = some off ∧ (pc : Int) + off = (t : Int))) := by
  unfold gk_sw at h
  split at h
  · split at h
    · rename_i hc
      obtain ⟨t, h1, h2⟩ := gk_to_inv h
      exact ⟨_, _, t, rfl, h2, Or.inl ⟨hc, h1⟩⟩
    · rename_i hc
      split at h
      · rename_i off ho
        obtain ⟨t, h1, h2⟩ := gk_to_inv h
        exact ⟨_, _, t, rfl, h2, Or.inr ⟨hc, off, ho, h1⟩⟩
      · cases h
  · cases h
theorem gk_pr_at {ad : Nat → Nat} {l : gk_Lc} {k : Nat} {v : Value} (h : l[k]? = some (some v)) : ∃ j : Nat, (gk_pr ad 0 l)[j]? = some (k, gk_v ad v) := by
  have := gk_pr_in ad l 0 k v h
  rw [Nat.zero_add] at this
  exact List.getElem?_of_mem this
section GK2
variable {p : Program} {l : Launch} {e : Env} {R : Room} {s : State} {m : MethodId} {args : Array Value} {below : List Frame} {meth : Method} {c : Code} {H : Heap} {locs : List Loc} {cells slots : Nat} {Q : State → Prop}
variable {cc : ByteArray} {pc : Nat} {ls : Array Slot} {ad : Nat → Nat}
set_option maxHeartbeats 4000000 in
theorem gk_pure_ok (hx : p.tables.exec = Jvm.exec) (hb : c.code = cc) {i : Instr} {len : Nat} (hd : decode cc pc = .ok (i, len)) (hlen : gk_len i = 0 ∨ len = gk_len i) {lc lc' : gk_Lc} {st st' : List Value} {pc' : Nat} (hl : gk_L ad ls lc) (h : gk_pure pc lc st i = some (pc', lc', st'))
    (kk : ∀ ls' : Array Slot, gk_L ad ls' lc' → W p l e R s m args below meth c H locs cells slots Q (F0 m pc' ls' (gk_vs ad st'))) : W p l e R s m args below meth c H locs cells slots Q (F0 m pc ls (gk_vs ad st)) := by
  have hh := gk_has hl
  cases i with
  | iconst n =>
    obtain rfl : len = 1 := by simpa [gk_len] using hlen
    cases h
    exact lv_iconst hx hb hd rfl (kk ls hl)
  | bipush n =>
    obtain rfl : len = 2 := by simpa [gk_len] using hlen
    cases h
    exact lv_bipush hx hb hd rfl (kk ls hl)
  | sipush n =>
    obtain rfl : len = 3 := by simpa [gk_len] using hlen
    cases h
    exact lv_sipush hx hb hd rfl (kk ls hl)
  | lconst n =>
    obtain rfl : len = 1 := by simpa [gk_len] using hlen
    cases h
    exact lv_lconst hx hb hd rfl (kk ls hl)
  | iload k =>
    obtain rfl : len = 2 := by simpa [gk_len] using hlen
    obtain ⟨x, h1, h2⟩ := gk_ldi_inv h
    cases h2
    exact lv_iload hx hb hd (hl.2.2 _ _ h1) (kk ls hl)
  | iload_n k =>
    obtain rfl : len = 1 := by simpa [gk_len] using hlen
    obtain ⟨x, h1, h2⟩ := gk_ldi_inv h
    cases h2
    exact lv_iload_n hx hb hd rfl (hl.2.2 _ _ h1) (kk ls hl)
  | lload k =>
    obtain rfl : len = 2 := by simpa [gk_len] using hlen
    obtain ⟨x, h1, h2⟩ := gk_ldl_inv h
    cases h2
    exact lv_lload hx hb hd (hl.2.2 _ _ h1) (kk ls hl)
  | lload_n k =>
    obtain rfl : len = 1 := by simpa [gk_len] using hlen
    obtain ⟨x, h1, h2⟩ := gk_ldl_inv h
    cases h2
    exact lv_lload_n hx hb hd rfl (hl.2.2 _ _ h1) (kk ls hl)
  | aload k =>
    obtain rfl : len = 2 := by simpa [gk_len] using hlen
    rcases gk_lda_inv h with ⟨x, h1, h2⟩ | ⟨h1, h2⟩
    · cases h2
      exact lv_aload hx hb hd (hl.2.2 _ _ h1) (kk ls hl)
    · cases h2
      exact lv_aloadN hx hb hd (hl.2.2 _ _ h1) (kk ls hl)
  | aload_n k =>
    obtain rfl : len = 1 := by simpa [gk_len] using hlen
    rcases gk_lda_inv h with ⟨x, h1, h2⟩ | ⟨h1, h2⟩
    · cases h2
      exact lv_aload_n hx hb hd rfl (hl.2.2 _ _ h1) (kk ls hl)
    · cases h2
      exact lv_aload_nN hx hb hd rfl (hl.2.2 _ _ h1) (kk ls hl)
  | istore k =>
    obtain rfl : len = 2 := by simpa [gk_len] using hlen
    obtain ⟨x, r, rfl, hk, h2⟩ := gk_sti_inv h
    cases h2
    exact lv_istore (x := x) (rest := gk_vs ad st') hx hb hd hh hk rfl (fun ls' h' => kk ls' (gk_after1 (v := .int x) h'))
  | istore_n k =>
    obtain rfl : len = 1 := by simpa [gk_len] using hlen
    obtain ⟨x, r, rfl, hk, h2⟩ := gk_sti_inv h
    cases h2
    exact lv_istore_n (x := x) (rest := gk_vs ad st') hx hb hd rfl hh hk rfl (fun ls' h' => kk ls' (gk_after1 (v := .int x) h'))
  | lstore k =>
    obtain rfl : len = 2 := by simpa [gk_len] using hlen
    obtain ⟨x, r, rfl, hk, h2⟩ := gk_stl_inv h
    cases h2
    exact lv_lstore (x := x) (rest := gk_vs ad st') hx hb hd hh hk rfl (fun ls' h' => kk ls' (gk_after2 (v := .long x) h'))
  | lstore_n k =>
    obtain rfl : len = 1 := by simpa [gk_len] using hlen
    obtain ⟨x, r, rfl, hk, h2⟩ := gk_stl_inv h
    cases h2
    exact lv_lstore_n (x := x) (rest := gk_vs ad st') hx hb hd rfl hh hk rfl (fun ls' h' => kk ls' (gk_after2 (v := .long x) h'))
  | astore k =>
    obtain rfl : len = 2 := by simpa [gk_len] using hlen
    obtain ⟨hk, ⟨x, r, rfl, h2⟩ | ⟨r, rfl, h2⟩⟩ := gk_sta_inv h
    · cases h2
      exact lv_astore (x := ad x) (rest := gk_vs ad st') hx hb hd hh hk rfl (fun ls' h' => kk ls' (gk_after1 (v := .ref x) h'))
    · cases h2
      exact lv_astoreN (rest := gk_vs ad st') hx hb hd hh hk rfl (fun ls' h' => kk ls' (gk_after1 (v := .null) h'))
  | astore_n k =>
    obtain rfl : len = 1 := by simpa [gk_len] using hlen
    obtain ⟨hk, ⟨x, r, rfl, h2⟩ | ⟨r, rfl, h2⟩⟩ := gk_sta_inv h
    · cases h2
      exact lv_astore_n (x := ad x) (rest := gk_vs ad st') hx hb hd rfl hh hk rfl (fun ls' h' => kk ls' (gk_after1 (v := .ref x) h'))
    · cases h2
      exact lv_astore_nN (rest := gk_vs ad st') hx hb hd rfl hh hk rfl (fun ls' h' => kk ls' (gk_after1 (v := .null) h'))
  | iinc k n =>
    obtain rfl : len = 3 := by simpa [gk_len] using hlen
    obtain ⟨x, h1, h2⟩ := gk_inc_inv h
    cases h2
    obtain ⟨j, hj⟩ := gk_pr_at (ad := ad) h1
    have hk : k < lc.length := (List.getElem?_eq_some_iff.mp h1).1
    exact lv_iinc (x := x) hx hb hd hh hj rfl hk rfl (fun ls' h' => kk ls' (gk_after1 (v := .int (x + Int32.ofInt n)) h'))
  | iadd =>
    obtain rfl : len = 1 := by simpa [gk_len] using hlen
    obtain ⟨x, y, r, rfl, h2⟩ := gk_ii_inv h
    cases h2
    exact lv_iadd (x := x) (y := y) (rest := gk_vs ad r) hx hb hd (kk ls hl)
  | isub =>
    obtain rfl : len = 1 := by simpa [gk_len] using hlen
    obtain ⟨x, y, r, rfl, h2⟩ := gk_ii_inv h
    cases h2
    exact lv_isub (x := x) (y := y) (rest := gk_vs ad r) hx hb hd (kk ls hl)
  | imul =>
    obtain rfl : len = 1 := by simpa [gk_len] using hlen
    obtain ⟨x, y, r, rfl, h2⟩ := gk_ii_inv h
    cases h2
    exact lv_imul (x := x) (y := y) (rest := gk_vs ad r) hx hb hd (kk ls hl)
  | iand =>
    obtain rfl : len = 1 := by simpa [gk_len] using hlen
    obtain ⟨x, y, r, rfl, h2⟩ := gk_ii_inv h
    cases h2
    exact lv_iand (x := x) (y := y) (rest := gk_vs ad r) hx hb hd (kk ls hl)
  | ior =>
    obtain rfl : len = 1 := by simpa [gk_len] using hlen
    obtain ⟨x, y, r, rfl, h2⟩ := gk_ii_inv h
    cases h2
    exact lv_ior (x := x) (y := y) (rest := gk_vs ad r) hx hb hd (kk ls hl)
  | ixor =>
    obtain rfl : len = 1 := by simpa [gk_len] using hlen
    obtain ⟨x, y, r, rfl, h2⟩ := gk_ii_inv h
    cases h2
    exact lv_ixor (x := x) (y := y) (rest := gk_vs ad r) hx hb hd (kk ls hl)
  | ishl =>
    obtain rfl : len = 1 := by simpa [gk_len] using hlen
    obtain ⟨x, y, r, rfl, h2⟩ := gk_ii_inv h
    cases h2
    exact lv_ishl (x := x) (y := y) (rest := gk_vs ad r) hx hb hd (kk ls hl)
  | ishr =>
    obtain rfl : len = 1 := by simpa [gk_len] using hlen
    obtain ⟨x, y, r, rfl, h2⟩ := gk_ii_inv h
    cases h2
    exact lv_ishr (x := x) (y := y) (rest := gk_vs ad r) hx hb hd (kk ls hl)
  | idiv =>
    obtain rfl : len = 1 := by simpa [gk_len] using hlen
    obtain ⟨x, y, r, rfl, hy, h2⟩ := gk_iz_inv h
    cases h2
    exact lv_idiv (x := x) (y := y) (rest := gk_vs ad r) hx hb hd hy (kk ls hl)
  | irem =>
    obtain rfl : len = 1 := by simpa [gk_len] using hlen
    obtain ⟨x, y, r, rfl, hy, h2⟩ := gk_iz_inv h
    cases h2
    exact lv_irem (x := x) (y := y) (rest := gk_vs ad r) hx hb hd hy (kk ls hl)
  | ladd =>
    obtain rfl : len = 1 := by simpa [gk_len] using hlen
    obtain ⟨x, y, r, rfl, h2⟩ := gk_ll_inv h
    cases h2
    exact lv_ladd (x := x) (y := y) (rest := gk_vs ad r) hx hb hd (kk ls hl)
  | lsub =>
    obtain rfl : len = 1 := by simpa [gk_len] using hlen
    obtain ⟨x, y, r, rfl, h2⟩ := gk_ll_inv h
    cases h2
    exact lv_lsub (x := x) (y := y) (rest := gk_vs ad r) hx hb hd (kk ls hl)
  | lmul =>
    obtain rfl : len = 1 := by simpa [gk_len] using hlen
    obtain ⟨x, y, r, rfl, h2⟩ := gk_ll_inv h
    cases h2
    exact lv_lmul (x := x) (y := y) (rest := gk_vs ad r) hx hb hd (kk ls hl)
  | lshl =>
    obtain rfl : len = 1 := by simpa [gk_len] using hlen
    obtain ⟨x, y, r, rfl, h2⟩ := gk_li_inv h
    cases h2
    exact lv_lshl (x := x) (y := y) (rest := gk_vs ad r) hx hb hd rfl (kk ls hl)
  | lshr =>
    obtain rfl : len = 1 := by simpa [gk_len] using hlen
    obtain ⟨x, y, r, rfl, h2⟩ := gk_li_inv h
    cases h2
    exact lv_lshr (x := x) (y := y) (rest := gk_vs ad r) hx hb hd rfl (kk ls hl)
  | i2l =>
    obtain rfl : len = 1 := by simpa [gk_len] using hlen
    obtain ⟨x, r, rfl, h2⟩ := gk_ui_inv h
    cases h2
    exact lv_i2l (x := x) (rest := gk_vs ad r) hx hb hd rfl (kk ls hl)
  | i2c =>
    obtain rfl : len = 1 := by simpa [gk_len] using hlen
    obtain ⟨x, r, rfl, h2⟩ := gk_ui_inv h
    cases h2
    exact lv_i2c (x := x) (rest := gk_vs ad r) hx hb hd rfl (kk ls hl)
  | l2i =>
    obtain rfl : len = 1 := by simpa [gk_len] using hlen
    obtain ⟨x, r, rfl, h2⟩ := gk_ul_inv h
    cases h2
    exact lv_l2i (x := x) (rest := gk_vs ad r) hx hb hd rfl (kk ls hl)
  | lcmp =>
    obtain rfl : len = 1 := by simpa [gk_len] using hlen
    obtain ⟨x, y, r, rfl, h2⟩ := gk_lc_inv h
    cases h2
    exact W.lcmp (x := x) (y := y) (rest := gk_vs ad r) hx hb hd (kk ls hl)
  | dup =>
    obtain rfl : len = 1 := by simpa [gk_len] using hlen
    obtain ⟨v, r, rfl, hv, h2⟩ := gk_dup_inv h
    cases h2
    exact lv_dup (va := gk_v ad v) (rest := gk_vs ad r) hx hb hd (by rw [gk_v_cat]; exact hv) (kk ls hl)
  | pop =>
    obtain rfl : len = 1 := by simpa [gk_len] using hlen
    obtain ⟨v, r, rfl, hv, h2⟩ := gk_pop_inv h
    cases h2
    exact lv_pop (va := gk_v ad v) (rest := gk_vs ad st') hx hb hd (by rw [gk_v_cat]; exact hv) (kk ls hl)
  | dup2 =>
    obtain rfl : len = 1 := by simpa [gk_len] using hlen
    obtain ⟨v, u, r, rfl, hv, hu, h2⟩ := gk_dup2_inv h
    cases h2
    exact lv_dup2_11 (va := gk_v ad v) (vb := gk_v ad u) (rest := gk_vs ad r) hx hb hd (by rw [gk_v_cat]; exact hv) (by rw [gk_v_cat]; exact hu) (kk ls hl)
  | ifCond cd off =>
    obtain rfl : len = 3 := by simpa [gk_len] using hlen
    obtain ⟨x, r, t, rfl, ht, h2⟩ := gk_if_inv h
    cases h2
    have k2 : ∀ b : Bool, gk_cmp cd x 0 = b → W p l e R s m args below meth c H locs cells slots Q (F0 m (if b = true then t else pc + 3) ls (gk_vs ad st')) := fun b hb' => by rw [← hb']; exact kk ls hl
    cases cd with
    | eq => exact lv_if_eq (x := x) (rest := gk_vs ad st') hx hb hd ht (fun q => k2 true (decide_eq_true q)) (fun q => k2 false (decide_eq_false q))
    | ne => exact lv_if_ne (x := x) (rest := gk_vs ad st') hx hb hd ht (fun q => k2 true (decide_eq_true q)) (fun q => k2 false (decide_eq_false (fun z => z q)))
    | lt => exact lv_if_lt (x := x) (rest := gk_vs ad st') hx hb hd ht (fun q => k2 true (decide_eq_true q)) (fun q => k2 false (decide_eq_false q))
    | ge => exact lv_if_ge (x := x) (rest := gk_vs ad st') hx hb hd ht (fun q => k2 true (decide_eq_true q)) (fun q => k2 false (decide_eq_false q))
    | gt => exact lv_if_gt (x := x) (rest := gk_vs ad st') hx hb hd ht (fun q => k2 true (decide_eq_true q)) (fun q => k2 false (decide_eq_false q))
    | le => exact lv_if_le (x := x) (rest := gk_vs ad st') hx hb hd ht (fun q => k2 true (decide_eq_true q)) (fun q => k2 false (decide_eq_false q))
  | if_icmp cd off =>
    obtain rfl : len = 3 := by simpa [gk_len] using hlen
    obtain ⟨x, y, r, t, rfl, ht, h2⟩ := gk_ic_inv h
    cases h2
    have k2 : ∀ b : Bool, gk_cmp cd x y = b → W p l e R s m args below meth c H locs cells slots Q (F0 m (if b = true then t else pc + 3) ls (gk_vs ad st')) := fun b hb' => by rw [← hb']; exact kk ls hl
    cases cd with
    | eq => exact lv_icmp_eq (x := x) (y := y) (rest := gk_vs ad st') hx hb hd ht (fun q => k2 true (decide_eq_true q)) (fun q => k2 false (decide_eq_false q))
    | ne => exact lv_icmp_ne (x := x) (y := y) (rest := gk_vs ad st') hx hb hd ht (fun q => k2 true (decide_eq_true q)) (fun q => k2 false (decide_eq_false (fun z => z q)))
    | lt => exact lv_icmp_lt (x := x) (y := y) (rest := gk_vs ad st') hx hb hd ht (fun q => k2 true (decide_eq_true q)) (fun q => k2 false (decide_eq_false q))
    | ge => exact lv_icmp_ge (x := x) (y := y) (rest := gk_vs ad st') hx hb hd ht (fun q => k2 true (decide_eq_true q)) (fun q => k2 false (decide_eq_false q))
    | gt => exact lv_icmp_gt (x := x) (y := y) (rest := gk_vs ad st') hx hb hd ht (fun q => k2 true (decide_eq_true q)) (fun q => k2 false (decide_eq_false q))
    | le => exact lv_icmp_le (x := x) (y := y) (rest := gk_vs ad st') hx hb hd ht (fun q => k2 true (decide_eq_true q)) (fun q => k2 false (decide_eq_false q))
  | goto off =>
    obtain rfl : len = 3 := by simpa [gk_len] using hlen
    obtain ⟨t, ht, h2⟩ := gk_to_inv h
    cases h2
    exact lv_goto hx hb hd ht (kk ls hl)
  | tableswitch d lo hi offs =>
    obtain ⟨x, r, t, rfl, h2, ⟨ho, ht⟩ | ⟨ho, off, h3, ht⟩⟩ := gk_sw_inv h
    · cases h2
      exact lv_tableOut (x := x) (rest := gk_vs ad st') hx hb hd ho ht (kk ls hl)
    · cases h2
      exact lv_tableIn (x := x) (rest := gk_vs ad st') hx hb hd (fun q => ho (Or.inl q)) (fun q => ho (Or.inr q)) h3 ht (kk ls hl)
  | _ => cases h
end GK2
end
section
/-! part 3: the abstract world: a list of cells, the k-th at the address sz + k; the reference 0 is the law's script, at b -/
abbrev gk_AC : Type := (Nat × List Value) ⊕ ((Nat × List Int32) ⊕ List Int64)
abbrev gk_Wd : Type := List gk_AC
def gk_ty (t : Nat) : FieldType := match t with
  | 0 => .int
  | 1 => .char
  | 2 => .boolean
  | _ => .long
def gk_ad (b sz : Nat) : Nat → Nat
  | 0 => b
  | k + 1 => sz + k
def gk_e (ad : Nat → Nat) (cA : Nat → ClassId) (c : gk_AC) : va_E := match c with
  | .inl o => .inr (o.1, o.2.map (gk_v ad))
  | .inr (.inl a) => .inl (cA a.1, a.2.length, .inl (fun j => a.2.getD j 0))
  | .inr (.inr a) => .inl (cA 3, a.length, .inr (.inl (fun j => a.getD j 0)))
def gk_w (b sz : Nat) (cA : Nat → ClassId) (w : gk_Wd) : va_W := w.mapIdx fun k c => (sz + k, gk_e (gk_ad b sz) cA c)
theorem gk_w_get (b sz : Nat) (cA : Nat → ClassId) (w : gk_Wd) (k : Nat) : (gk_w b sz cA w)[k]? = (w[k]?).map fun c => (sz + k, gk_e (gk_ad b sz) cA c) := by
  simp [gk_w]
theorem gk_w_at {b sz : Nat} {cA : Nat → ClassId} {w : gk_Wd} {k : Nat} {c : gk_AC} (h : w[k]? = some c) : (gk_w b sz cA w)[k]? = some (sz + k, gk_e (gk_ad b sz) cA c) := by
  rw [gk_w_get, h]; rfl
theorem gk_w_set (b sz : Nat) (cA : Nat → ClassId) (w : gk_Wd) (k : Nat) (c : gk_AC) : (gk_w b sz cA w).set k (sz + k, gk_e (gk_ad b sz) cA c) = gk_w b sz cA (w.set k c) := by
  apply List.ext_getElem?
  intro j
  rw [gk_w_get, List.getElem?_set, List.getElem?_set, gk_w_get]
  have hl : (gk_w b sz cA w).length = w.length := by simp [gk_w]
  rw [hl]
  by_cases h : k = j
  · subst h
    by_cases h2 : k < w.length
    · simp [h2]
    · simp [h2]
  · simp [h]
theorem gk_w_push (b sz : Nat) (cA : Nat → ClassId) (w : gk_Wd) (c : gk_AC) : gk_w b sz cA w ++ [(sz + w.length, gk_e (gk_ad b sz) cA c)] = gk_w b sz cA (w ++ [c]) := by
  simp [gk_w, List.mapIdx_append]
theorem gk_w_D (b sz : Nat) (cA : Nat → ClassId) (w : gk_Wd) : va_D (fun q => sz ≤ q) (gk_w b sz cA w) := by
  refine ⟨fun i j x y hi hj he => ?_, fun k q hk => ?_⟩
  · rw [gk_w_get] at hi hj
    cases h1 : w[i]? with
    | none => rw [h1] at hi; cases hi
    | some c1 =>
      cases h2 : w[j]? with
      | none => rw [h2] at hj; cases hj
      | some c2 =>
        rw [h1] at hi; rw [h2] at hj
        cases hi; cases hj
        dsimp only at he
        omega
  · rw [gk_w_get] at hk
    cases h1 : w[k]? with
    | none => rw [h1] at hk; cases hk
    | some c1 =>
      rw [h1] at hk
      cases hk
      show sz ≤ sz + k
      omega
def gk_tys (cA : Nat → ClassId) : List (ClassId × FieldType) := [(cA 0, .int), (cA 1, .char), (cA 2, .boolean), (cA 3, .long)]
/-- what holds of the heap H and of what was written, at a point of a method that began at s -/
def gk_I (D : va_G) (cl : List vw_C) (cA : Nat → ClassId) (b sz : Nat) (s : State) (w : gk_Wd) (H : Heap) (locs : List Loc) (cells : Nat) : Prop :=
  va_P D cl (gk_w b sz cA w) H ∧ va_S (fun q => sz ≤ q) s.heap H locs ∧ H.size = sz + w.length ∧ s.heap.size + cells = sz + w.length ∧ sz ≤ s.heap.size
/-- what holds of the tables at s -/
def gk_K (D : va_G) (cl : List vw_C) (cA : Nat → ClassId) (LW : List Cond) (s : State) : Prop :=
  va_K D cl (gk_tys cA) s ∧ ∀ w ∈ LW, ∀ a : Array Value, w.before a s = true
/-- the table of classes: its words, its field types, its names -/
def gk_Cl (cl : List vw_C) (LW : List Cond) (fty : Nat → Nat → FieldType) : Prop := ∀ (ci : Nat) (C : String) (T : u_T) (N : Nat), cl[ci]? = some (C, T, N) →
  (∀ w ∈ u_ws C T N, w ∈ LW) ∧ (∀ k, k < N → parseFieldDescriptor (T k).2.2.1 = some (fty ci k)) ∧ ∀ x, x < N → ∀ y, y < N → x ≠ y → (T x).2.1 ≠ (T y).2.1
section GK3
variable {p : Program} {l : Launch} {e : Env} {R : Room} {s : State} {m : MethodId} {args : Array Value} {below : List Frame} {meth : Method} {c : Code} {H : Heap} {locs : List Loc} {cells slots : Nat} {Q : State → Prop}
variable {cc : ByteArray} {pc : Nat} {ls : Array Slot} {rest : List Value} {D : va_G} {cl : List vw_C} {cA : Nat → ClassId} {b sz : Nat} {w : gk_Wd} {LW : List Cond} {fty : Nat → Nat → FieldType} {own : String}
/-- the heap's size is known from both sides -/
theorem gk_exact {n : Nat} {g : JFrame} (hge : n ≤ H.size) (hle : s.heap.size + cells ≤ n) (k : H.size = n → W p l e R s m args below meth c H locs cells slots Q g) : W p l e R s m args below meth c H locs cells slots Q g := by
  intro T hT X
  refine k ?_ T hT X
  have := X.heapSize
  rw [hT] at this
  omega
theorem gk_getf (hx : p.tables.exec = Jvm.exec) (hb : c.code = cc) (hK : gk_K D cl cA LW s) (hC : gk_Cl cl LW fty) (hown : s.vm.findClass own = some m.cls) (hI : gk_I D cl cA b sz s w H locs cells) {a ci k idx : Nat} {fs : List Value} {C : String} {T : u_T} {N : Nat} {v : Value}
    (ha : w[a]? = some (.inl (ci, fs))) (hc : cl[ci]? = some (C, T, N)) (hk : k < N) (hlink : Cond.fieldLink own idx (T k).1 (T k).2.1 (T k).2.2.1 ∈ LW ∨ ∃ host, Cond.fieldLinkNest own idx (T k).1 (T k).2.1 (T k).2.2.1 host ∈ LW) (hv : fs[k]? = some v) (hd : decode cc pc = .ok (.getfield idx, 3))
    (kk : W p l e R s m args below meth c H locs cells slots Q (F0 m (pc + 3) ls (gk_v (gk_ad b sz) v :: rest))) : W p l e R s m args below meth c H locs cells slots Q (F0 m pc ls (.ref (sz + a) :: rest)) := by
  have hv' : (fs.map (gk_v (gk_ad b sz)))[k]? = some (gk_v (gk_ad b sz) v) := by rw [List.getElem?_map, hv]; rfl
  rcases hlink with h | ⟨host, h⟩
  · exact va_get (Ts := LW) hx hb (fun w hw => hK.2 w hw args) (hC ci C T N hc).1 hown hK.1 hI.1 a (gk_w_at ha) hc k hk (hK.2 _ h args) (fun _ z => z) hv' hd kk
  · exact va_getN (Ts := LW) hx hb (fun w hw => hK.2 w hw args) (hC ci C T N hc).1 hown hK.1 hI.1 a (gk_w_at ha) hc k hk (hK.2 _ h args) (fun _ z => z) hv' hd kk
theorem gk_I_after {H1 : Heap} {locs1 : List Loc} {a : Nat} {c1 : gk_AC} (hI : gk_I D cl cA b sz s w H locs cells) (hP : va_P D cl ((gk_w b sz cA w).set a (sz + a, gk_e (gk_ad b sz) cA c1)) H1) (hS : va_S (fun q => sz ≤ q) s.heap H1 locs1) (hz : H1.size = sz + w.length) : gk_I D cl cA b sz s (w.set a c1) H1 locs1 cells := by
  rw [gk_w_set] at hP
  exact ⟨hP, hS, by rw [List.length_set]; exact hz, by rw [List.length_set]; exact hI.2.2.2.1, hI.2.2.2.2⟩
/-- a cell of the world stands within the heap -/
theorem gk_P_lt {w2 : gk_Wd} {H1 : Heap} (hP : va_P D cl (gk_w b sz cA w2) H1) (hn : 0 < w2.length) : sz + w2.length ≤ H1.size := by
  have h1 : w2[w2.length - 1]? = some (w2[w2.length - 1]'(by omega)) := List.getElem?_eq_getElem (by omega)
  have h2 := (hP (w2.length - 1) _ (gk_w_at h1)).lt
  dsimp only at h2
  omega
theorem gk_putf (hx : p.tables.exec = Jvm.exec) (hb : c.code = cc) (hK : gk_K D cl cA LW s) (hC : gk_Cl cl LW fty) (hown : s.vm.findClass own = some m.cls) (hI : gk_I D cl cA b sz s w H locs cells) {a ci k idx : Nat} {fs : List Value} {C : String} {T : u_T} {N : Nat} {v : Value}
    (ha : w[a]? = some (.inl (ci, fs))) (hc : cl[ci]? = some (C, T, N)) (hk : k < N) (hlink : ((T k).2.2.2 = false ∧ (Cond.fieldLink own idx (T k).1 (T k).2.1 (T k).2.2.1 ∈ LW ∨ ∃ host, Cond.fieldLinkNest own idx (T k).1 (T k).2.1 (T k).2.2.1 host ∈ LW)) ∨ ((T k).2.2.2 = true ∧ meth.name = "<init>" ∧ (T k).1 = own ∧ Cond.fieldLink own idx (T k).1 (T k).2.1 (T k).2.2.1 ∈ LW))
    (hl : k < fs.length) (hfit : fits (fty ci k) (gk_v (gk_ad b sz) v) = true) (hd : decode cc pc = .ok (.putfield idx, 3))
    (kk : ∀ (H1 : Heap) (locs1 : List Loc), gk_I D cl cA b sz s (w.set a (.inl (ci, fs.set k v))) H1 locs1 cells → W p l e R s m args below meth c H1 locs1 cells slots Q (F0 m (pc + 3) ls rest)) : W p l e R s m args below meth c H locs cells slots Q (F0 m pc ls (gk_v (gk_ad b sz) v :: .ref (sz + a) :: rest)) := by
  obtain ⟨hC1, hC2, hC3⟩ := hC ci C T N hc
  have hl' : k < (fs.map (gk_v (gk_ad b sz))).length := by rw [List.length_map]; exact hl
  have hn := narrow_of_fits hfit
  have fin : ∀ (H1 : Heap) (locs1 : List Loc), va_P D cl ((gk_w b sz cA w).set a (sz + a, .inr (ci, (fs.map (gk_v (gk_ad b sz))).set k (gk_v (gk_ad b sz) v)))) H1 → va_D (fun q => sz ≤ q) ((gk_w b sz cA w).set a (sz + a, .inr (ci, (fs.map (gk_v (gk_ad b sz))).set k (gk_v (gk_ad b sz) v)))) → va_S (fun q => sz ≤ q) s.heap H1 locs1 → W p l e R s m args below meth c H1 locs1 cells slots Q (F0 m (pc + 3) ls rest) := by
    intro H1 locs1 hP1 _ hS1
    have hP2 : va_P D cl ((gk_w b sz cA w).set a (sz + a, gk_e (gk_ad b sz) cA (.inl (ci, fs.set k v)))) H1 := by
      have e1 : gk_e (gk_ad b sz) cA (.inl (ci, fs.set k v)) = .inr (ci, (fs.map (gk_v (gk_ad b sz))).set k (gk_v (gk_ad b sz) v)) := by
        show Sum.inr (ci, (fs.set k v).map (gk_v (gk_ad b sz))) = _
        rw [List.map_set]
      rw [e1]; exact hP1
    have hge : sz + w.length ≤ H1.size := by
      have h0 := hP2
      rw [gk_w_set] at h0
      have hlen : 0 < (w.set a (.inl (ci, fs.set k v)) : gk_Wd).length := by
        rw [List.length_set]
        exact Nat.lt_of_le_of_lt (Nat.zero_le _) (List.getElem?_eq_some_iff.mp ha).1
      have h1 := gk_P_lt h0 hlen
      rw [List.length_set] at h1
      exact h1
    exact gk_exact hge (Nat.le_of_eq hI.2.2.2.1) (fun hz => kk H1 locs1 (gk_I_after hI hP2 hS1 hz))
  rcases hlink with ⟨hf, h | ⟨host, h⟩⟩ | ⟨hf, hini, hdecl, h⟩
  · exact va_put (Ts := LW) hx hb (fun w hw => hK.2 w hw args) hC1 (fty ci) hC2 hC3 hown hK.1 hI.1 (gk_w_D b sz cA w) hI.2.1 a (gk_w_at ha) hc k hk (hK.2 _ h args) (fun _ z => z) hf (hC2 k hk) hn hfit hl' hd fin
  · exact va_putN (Ts := LW) hx hb (fun w hw => hK.2 w hw args) hC1 (fty ci) hC2 hC3 hown hK.1 hI.1 (gk_w_D b sz cA w) hI.2.1 a (gk_w_at ha) hc k hk (hK.2 _ h args) (fun _ z => z) hf (hC2 k hk) hn hfit hl' hd fin
  · exact va_putF (Ts := LW) hx hb (fun w hw => hK.2 w hw args) hC1 (fty ci) hC2 hC3 hown hK.1 hI.1 (gk_w_D b sz cA w) hI.2.1 a (gk_w_at ha) hc k hk (hK.2 _ h args) (fun _ z => z) hf hini hdecl (hC2 k hk) hn hfit hl' hd fin
end GK3
end
section
/-! part 4: arrays, new cells, the script, the library's three members, over the abstract world -/
theorem gk_getD_set {α : Type} (xs : List α) (i : Nat) (x d : α) (hi : i < xs.length) (j : Nat) : (xs.set i x).getD j d = if j = i then x else xs.getD j d := by
  rw [List.getD_eq_getElem?_getD, List.getD_eq_getElem?_getD, List.getElem?_set]
  by_cases h : j = i
  · subst h
    simp [hi]
  · rw [if_neg h, if_neg (fun q => h q.symm)]
theorem gk_upd (xs : List Int32) (i : Nat) (x : Int32) (hi : i < xs.length) : upd (fun j => xs.getD j 0) i x = fun j => (xs.set i x).getD j 0 := by
  funext j
  rw [gk_getD_set xs i x 0 hi j]
  rfl
theorem gk_updL (xs : List Int64) (i : Nat) (x : Int64) (hi : i < xs.length) : vp_updL (fun j => xs.getD j 0) i x = fun j => (xs.set i x).getD j 0 := by
  funext j
  rw [gk_getD_set xs i x 0 hi j]
  rfl
theorem gk_nar {ty : FieldType} {x : Int32} (h : fits ty (.int x) = true) : vp_nar ty x = x := by
  unfold vp_nar
  rw [narrow_of_fits h]
theorem gk_rep (n : Nat) : (fun j => (List.replicate n (0 : Int32)).getD j 0) = fun _ => 0 := by
  funext j
  rw [List.getD_eq_getElem?_getD, List.getElem?_replicate]
  split <;> rfl
theorem gk_repL (n : Nat) : (fun j => (List.replicate n (0 : Int64)).getD j 0) = fun _ => 0 := by
  funext j
  rw [List.getD_eq_getElem?_getD, List.getElem?_replicate]
  split <;> rfl
def gk_cpy (f g : List Int64) (sp dp n : Nat) : List Int64 := g.take dp ++ ((f.drop sp).take n ++ g.drop (dp + n))
theorem gk_cpy_len (f g : List Int64) (sp dp n : Nat) (h1 : sp + n ≤ f.length) (h2 : dp + n ≤ g.length) : (gk_cpy f g sp dp n).length = g.length := by
  simp [gk_cpy]
  omega
theorem gk_cpy_fun (f g : List Int64) (sp dp n : Nat) (h1 : sp + n ≤ f.length) (h2 : dp + n ≤ g.length) : va_cpy (fun j => f.getD j 0) (fun j => g.getD j 0) sp dp n = fun j => (gk_cpy f g sp dp n).getD j 0 := by
  funext j
  unfold va_cpy gk_cpy
  simp only [List.getD_eq_getElem?_getD]
  have e1 : (g.take dp).length = dp := by simp; omega
  have e2 : ((f.drop sp).take n).length = n := by simp; omega
  by_cases a : j < dp
  · rw [if_neg (by omega), List.getElem?_append_left (by omega), List.getElem?_take_of_lt a]
  · rw [List.getElem?_append_right (by omega), e1]
    by_cases b : j < dp + n
    · rw [if_pos ⟨by omega, b⟩, List.getElem?_append_left (by omega), List.getElem?_take_of_lt (by omega), List.getElem?_drop]
    · rw [if_neg (by omega), List.getElem?_append_right (by omega), e2, List.getElem?_drop]
      congr 2
      omega
section GK4
variable {p : Program} {l : Launch} {e : Env} {R : Room} {s : State} {m : MethodId} {args : Array Value} {below : List Frame} {meth : Method} {c : Code} {H : Heap} {locs : List Loc} {cells slots : Nat} {Q : State → Prop}
variable {cc : ByteArray} {pc : Nat} {ls : Array Slot} {rest : List Value} {D : va_G} {cl : List vw_C} {cA : Nat → ClassId} {b sz : Nat} {w : gk_Wd} {LW : List Cond} {fty : Nat → Nat → FieldType} {own : String}
theorem gk_iald (hx : p.tables.exec = Jvm.exec) (hb : c.code = cc) (hK : gk_K D cl cA LW s) (hI : gk_I D cl cA b sz s w H locs cells) {a : Nat} {xs : List Int32} {i : Int32} (ha : w[a]? = some (.inr (.inl (0, xs)))) (hin : vp_in i xs.length) (hd : decode cc pc = .ok (.iaload, 1))
    (kk : W p l e R s m args below meth c H locs cells slots Q (F0 m (pc + 1) ls (.int (xs.getD i.toNatClampNeg 0) :: rest))) : W p l e R s m args below meth c H locs cells slots Q (F0 m pc ls (.int i :: .ref (sz + a) :: rest)) :=
  va_iald (f := fun j => xs.getD j 0) (n := xs.length) (cA := cA 0) hx hb hK.1 hI.1 a 0 (gk_w_at ha) rfl hin hd kk
theorem gk_cald (hx : p.tables.exec = Jvm.exec) (hb : c.code = cc) (hK : gk_K D cl cA LW s) (hI : gk_I D cl cA b sz s w H locs cells) {a : Nat} {xs : List Int32} {i : Int32} (ha : w[a]? = some (.inr (.inl (1, xs)))) (hin : vp_in i xs.length) (hd : decode cc pc = .ok (.caload, 1))
    (kk : W p l e R s m args below meth c H locs cells slots Q (F0 m (pc + 1) ls (.int (xs.getD i.toNatClampNeg 0) :: rest))) : W p l e R s m args below meth c H locs cells slots Q (F0 m pc ls (.int i :: .ref (sz + a) :: rest)) :=
  va_cald (f := fun j => xs.getD j 0) (n := xs.length) (cA := cA 1) hx hb hK.1 hI.1 a 1 (gk_w_at ha) rfl hin hd kk
theorem gk_zald (hx : p.tables.exec = Jvm.exec) (hb : c.code = cc) (hK : gk_K D cl cA LW s) (hI : gk_I D cl cA b sz s w H locs cells) {a : Nat} {xs : List Int32} {i : Int32} (ha : w[a]? = some (.inr (.inl (2, xs)))) (hin : vp_in i xs.length) (hd : decode cc pc = .ok (.baload, 1))
    (kk : W p l e R s m args below meth c H locs cells slots Q (F0 m (pc + 1) ls (.int (xs.getD i.toNatClampNeg 0) :: rest))) : W p l e R s m args below meth c H locs cells slots Q (F0 m pc ls (.int i :: .ref (sz + a) :: rest)) :=
  va_zald (f := fun j => xs.getD j 0) (n := xs.length) (cA := cA 2) hx hb hK.1 hI.1 a 2 (gk_w_at ha) rfl hin hd kk
theorem gk_lald (hx : p.tables.exec = Jvm.exec) (hb : c.code = cc) (hK : gk_K D cl cA LW s) (hI : gk_I D cl cA b sz s w H locs cells) {a : Nat} {xs : List Int64} {i : Int32} (ha : w[a]? = some (.inr (.inr xs))) (hin : vp_in i xs.length) (hd : decode cc pc = .ok (.laload, 1))
    (kk : W p l e R s m args below meth c H locs cells slots Q (F0 m (pc + 1) ls (.long (xs.getD i.toNatClampNeg 0) :: rest))) : W p l e R s m args below meth c H locs cells slots Q (F0 m pc ls (.int i :: .ref (sz + a) :: rest)) :=
  va_lald (f := fun j => xs.getD j 0) (n := xs.length) (cA := cA 3) hx hb hK.1 hI.1 a 3 (gk_w_at ha) rfl hin hd kk
/-- behind a write: the world is the new one -/
theorem gk_back (hI : gk_I D cl cA b sz s w H locs cells) {a : Nat} {c0 c1 : gk_AC} (ha : w[a]? = some c0) {g : JFrame} {H1 : Heap} {locs1 : List Loc} {x : va_E} (hx : x = gk_e (gk_ad b sz) cA c1) (hP : va_P D cl ((gk_w b sz cA w).set a (sz + a, x)) H1) (hS : va_S (fun q => sz ≤ q) s.heap H1 locs1)
    (kk : gk_I D cl cA b sz s (w.set a c1) H1 locs1 cells → W p l e R s m args below meth c H1 locs1 cells slots Q g) : W p l e R s m args below meth c H1 locs1 cells slots Q g := by
  subst hx
  have hge : sz + w.length ≤ H1.size := by
    have h0 := hP
    rw [gk_w_set] at h0
    have hlen : 0 < (w.set a c1 : gk_Wd).length := by
      rw [List.length_set]
      exact Nat.lt_of_le_of_lt (Nat.zero_le _) (List.getElem?_eq_some_iff.mp ha).1
    have h1 := gk_P_lt h0 hlen
    rw [List.length_set] at h1
    exact h1
  exact gk_exact hge (Nat.le_of_eq hI.2.2.2.1) (fun hz => kk (gk_I_after hI hP hS hz))
theorem gk_in_lt {i : Int32} {n : Nat} (h : vp_in i n) : i.toNatClampNeg < n := Nat.not_le.mp fun q => h (Or.inr q)
theorem gk_iast (hx : p.tables.exec = Jvm.exec) (hb : c.code = cc) (hK : gk_K D cl cA LW s) (hI : gk_I D cl cA b sz s w H locs cells) {a : Nat} {xs : List Int32} {i x : Int32} (ha : w[a]? = some (.inr (.inl (0, xs)))) (hin : vp_in i xs.length) (hd : decode cc pc = .ok (.iastore, 1))
    (kk : ∀ (H1 : Heap) (locs1 : List Loc), gk_I D cl cA b sz s (w.set a (.inr (.inl (0, xs.set i.toNatClampNeg x)))) H1 locs1 cells → W p l e R s m args below meth c H1 locs1 cells slots Q (F0 m (pc + 1) ls rest)) : W p l e R s m args below meth c H locs cells slots Q (F0 m pc ls (.int x :: .int i :: .ref (sz + a) :: rest)) := by
  refine va_iast (f := fun j => xs.getD j 0) (n := xs.length) (cA := cA 0) hx hb hK.1 hI.1 (gk_w_D b sz cA w) hI.2.1 a 0 (gk_w_at ha) rfl hin hd fun H1 locs1 hP _ hS => gk_back hI ha ?_ hP hS (kk H1 locs1)
  show Sum.inl (cA 0, xs.length, Sum.inl _) = Sum.inl (cA 0, (xs.set i.toNatClampNeg x).length, Sum.inl _)
  rw [gk_upd xs _ x (gk_in_lt hin), List.length_set]
theorem gk_cast (hx : p.tables.exec = Jvm.exec) (hb : c.code = cc) (hK : gk_K D cl cA LW s) (hI : gk_I D cl cA b sz s w H locs cells) {a : Nat} {xs : List Int32} {i x : Int32} (ha : w[a]? = some (.inr (.inl (1, xs)))) (hin : vp_in i xs.length) (hf : fits .char (.int x) = true) (hd : decode cc pc = .ok (.castore, 1))
    (kk : ∀ (H1 : Heap) (locs1 : List Loc), gk_I D cl cA b sz s (w.set a (.inr (.inl (1, xs.set i.toNatClampNeg x)))) H1 locs1 cells → W p l e R s m args below meth c H1 locs1 cells slots Q (F0 m (pc + 1) ls rest)) : W p l e R s m args below meth c H locs cells slots Q (F0 m pc ls (.int x :: .int i :: .ref (sz + a) :: rest)) := by
  refine va_cast (f := fun j => xs.getD j 0) (n := xs.length) (cA := cA 1) hx hb hK.1 hI.1 (gk_w_D b sz cA w) hI.2.1 a 1 (gk_w_at ha) rfl hin hd fun H1 locs1 hP _ hS => gk_back hI ha ?_ hP hS (kk H1 locs1)
  show Sum.inl (cA 1, xs.length, Sum.inl _) = Sum.inl (cA 1, (xs.set i.toNatClampNeg x).length, Sum.inl _)
  rw [gk_nar hf, gk_upd xs _ x (gk_in_lt hin), List.length_set]
theorem gk_zast (hx : p.tables.exec = Jvm.exec) (hb : c.code = cc) (hK : gk_K D cl cA LW s) (hI : gk_I D cl cA b sz s w H locs cells) {a : Nat} {xs : List Int32} {i x : Int32} (ha : w[a]? = some (.inr (.inl (2, xs)))) (hin : vp_in i xs.length) (hf : fits .boolean (.int x) = true) (hd : decode cc pc = .ok (.bastore, 1))
    (kk : ∀ (H1 : Heap) (locs1 : List Loc), gk_I D cl cA b sz s (w.set a (.inr (.inl (2, xs.set i.toNatClampNeg x)))) H1 locs1 cells → W p l e R s m args below meth c H1 locs1 cells slots Q (F0 m (pc + 1) ls rest)) : W p l e R s m args below meth c H locs cells slots Q (F0 m pc ls (.int x :: .int i :: .ref (sz + a) :: rest)) := by
  refine va_zast (f := fun j => xs.getD j 0) (n := xs.length) (cA := cA 2) hx hb hK.1 hI.1 (gk_w_D b sz cA w) hI.2.1 a 2 (gk_w_at ha) rfl hin hd fun H1 locs1 hP _ hS => gk_back hI ha ?_ hP hS (kk H1 locs1)
  show Sum.inl (cA 2, xs.length, Sum.inl _) = Sum.inl (cA 2, (xs.set i.toNatClampNeg x).length, Sum.inl _)
  rw [gk_nar hf, gk_upd xs _ x (gk_in_lt hin), List.length_set]
theorem gk_last (hx : p.tables.exec = Jvm.exec) (hb : c.code = cc) (hK : gk_K D cl cA LW s) (hI : gk_I D cl cA b sz s w H locs cells) {a : Nat} {xs : List Int64} {i : Int32} {x : Int64} (ha : w[a]? = some (.inr (.inr xs))) (hin : vp_in i xs.length) (hd : decode cc pc = .ok (.lastore, 1))
    (kk : ∀ (H1 : Heap) (locs1 : List Loc), gk_I D cl cA b sz s (w.set a (.inr (.inr (xs.set i.toNatClampNeg x)))) H1 locs1 cells → W p l e R s m args below meth c H1 locs1 cells slots Q (F0 m (pc + 1) ls rest)) : W p l e R s m args below meth c H locs cells slots Q (F0 m pc ls (.long x :: .int i :: .ref (sz + a) :: rest)) := by
  refine va_last (f := fun j => xs.getD j 0) (n := xs.length) (cA := cA 3) hx hb hK.1 hI.1 (gk_w_D b sz cA w) hI.2.1 a 3 (gk_w_at ha) rfl hin hd fun H1 locs1 hP _ hS => gk_back hI ha ?_ hP hS (kk H1 locs1)
  show Sum.inl (cA 3, xs.length, Sum.inr (Sum.inl _)) = Sum.inl (cA 3, (xs.set i.toNatClampNeg x).length, Sum.inr (Sum.inl _))
  rw [gk_updL xs _ x (gk_in_lt hin), List.length_set]
theorem gk_alen (hx : p.tables.exec = Jvm.exec) (hb : c.code = cc) (hK : gk_K D cl cA LW s) (hI : gk_I D cl cA b sz s w H locs cells) {a t : Nat} {xs : List Int32} (ht : t < 3) (ha : w[a]? = some (.inr (.inl (t, xs)))) (hd : decode cc pc = .ok (.arraylength, 1))
    (kk : W p l e R s m args below meth c H locs cells slots Q (F0 m (pc + 1) ls (.int (Int32.ofNat xs.length) :: rest))) : W p l e R s m args below meth c H locs cells slots Q (F0 m pc ls (.ref (sz + a) :: rest)) := by
  have h3 : ∃ ty, (gk_tys cA)[t]? = some (cA t, ty) := by
    rcases (show t = 0 ∨ t = 1 ∨ t = 2 by omega) with rfl | rfl | rfl <;> exact ⟨_, rfl⟩
  obtain ⟨ty, hty⟩ := h3
  exact va_alen (x := (xs.length, .inl (fun j => xs.getD j 0))) (cA := cA t) hx hb hK.1 hI.1 a t (gk_w_at ha) hty rfl hd kk
/-- a new cell lies behind all others -/
theorem gk_new_q {q : Nat} {x : va_E} (hD : va_D (fun q => sz ≤ q) (gk_w b sz cA w ++ [(q, x)])) : sz + w.length ≤ q := by
  have hl : (gk_w b sz cA w).length = w.length := by simp [gk_w]
  have hlast : (gk_w b sz cA w ++ [(q, x)])[w.length]? = some (q, x) := by
    rw [List.getElem?_append_right (by omega), hl, Nat.sub_self]; rfl
  have hge : sz ≤ q := hD.2 w.length (q, x) hlast
  refine Nat.not_lt.mp fun hlt => ?_
  have h1 : w[q - sz]? = some (w[q - sz]'(by omega)) := List.getElem?_eq_getElem (by omega)
  have h2 : (gk_w b sz cA w ++ [(q, x)])[q - sz]? = some (sz + (q - sz), gk_e (gk_ad b sz) cA (w[q - sz]'(by omega))) := by
    rw [List.getElem?_append_left (by omega)]; exact gk_w_at h1
  have h3 := hD.1 (q - sz) w.length _ _ h2 hlast (by dsimp only; omega)
  omega
theorem gk_grown (hI : gk_I D cl cA b sz s w H locs cells) {g : Nat → JFrame} {q ns : Nat} {H1 : Heap} {x : va_E} {c1 : gk_AC} (hx : x = gk_e (gk_ad b sz) cA c1) (hP : va_P D cl (gk_w b sz cA w ++ [(q, x)]) H1) (hD : va_D (fun q => sz ≤ q) (gk_w b sz cA w ++ [(q, x)])) (hS : va_S (fun q => sz ≤ q) s.heap H1 locs)
    (kk : gk_I D cl cA b sz s (w ++ [c1]) H1 locs (cells + 1) → W p l e R s m args below meth c H1 locs (cells + 1) ns Q (g (sz + w.length))) : W p l e R s m args below meth c H1 locs (cells + 1) ns Q (g q) := by
  subst hx
  have hq := gk_new_q hD
  have hl : (gk_w b sz cA w).length = w.length := by simp [gk_w]
  have hlast : (gk_w b sz cA w ++ [(q, gk_e (gk_ad b sz) cA c1)])[w.length]? = some (q, gk_e (gk_ad b sz) cA c1) := by
    rw [List.getElem?_append_right (by omega), hl, Nat.sub_self]; rfl
  have hlt : q < H1.size := (hP w.length _ hlast).lt
  have h4 := hI.2.2.2.1
  refine gk_exact (n := sz + w.length + 1) (by omega) (by omega) fun hz => ?_
  have hqe : q = sz + w.length := by omega
  subst hqe
  rw [gk_w_push] at hP
  exact kk ⟨hP, hS, by simp; omega, by simp; omega, hI.2.2.2.2⟩
theorem gk_newc (hx : p.tables.exec = Jvm.exec) (hb : c.code = cc) (hK : gk_K D cl cA LW s) (hC : gk_Cl cl LW fty) (hown : s.vm.findClass own = some m.cls) (hI : gk_I D cl cA b sz s w H locs cells) {ci idx : Nat} {C : String} {T : u_T} {N : Nat} {fs : List Value}
    (hc : cl[ci]? = some (C, T, N)) (h1 : Cond.classLink own idx C ∈ LW) (h2 : Cond.instantiable C N ∈ LW) (h3 : Cond.initialized C ∈ LW) (hfs : ∀ j, j < N → defaultValue (fty ci j) = vp_V fs j) (hfv : fs.map (gk_v (gk_ad b sz)) = fs) (hcells : cells + 1 ≤ R.cells) (hslots : slots + N ≤ R.slots) (hd : decode cc pc = .ok (.new idx, 3))
    (kk : ∀ H1 : Heap, gk_I D cl cA b sz s (w ++ [.inl (ci, fs)]) H1 locs (cells + 1) → W p l e R s m args below meth c H1 locs (cells + 1) (slots + N) Q (F0 m (pc + 3) ls (.ref (sz + w.length) :: rest))) : W p l e R s m args below meth c H locs cells slots Q (F0 m pc ls rest) := by
  obtain ⟨hC1, hC2, hC3⟩ := hC ci C T N hc
  refine va_new (Ts := LW) (fs := fs) hx hb (fun w hw => hK.2 w hw args) hC1 (fty ci) hC2 hown (hK.2 _ h1 args) (hK.2 _ h2 args) (hK.2 _ h3 args) hK.1 hI.1 (gk_w_D b sz cA w) hI.2.1 (fun q hq => Nat.le_trans hI.2.2.2.2 hq) hc hfs hcells hslots hd fun q H1 hP hD hS => ?_
  refine gk_grown (c1 := .inl (ci, fs)) (g := fun q => F0 m (pc + 3) ls (.ref q :: rest)) hI ?_ hP hD hS (kk H1)
  show Sum.inr (ci, fs) = Sum.inr (ci, fs.map (gk_v (gk_ad b sz)))
  rw [hfv]
theorem gk_newi (hx : p.tables.exec = Jvm.exec) (hb : c.code = cc) (hK : gk_K D cl cA LW s) (hI : gk_I D cl cA b sz s w H locs cells) {t N : Nat} {n : Int32} {atype : ArrayType} (hty : newarray.typeOf atype = gk_ty t) (ht : t < 3) (harr : Cond.arrayClass (gk_ty t) ∈ LW) (hn : ¬ n < 0) (hN : n.toNatClampNeg = N) (hby : N ≤ 60000) (hcells : cells + 1 ≤ R.cells) (hslots : slots + N ≤ R.slots) (hd : decode cc pc = .ok (.newarray atype, 2))
    (kk : ∀ H1 : Heap, gk_I D cl cA b sz s (w ++ [.inr (.inl (t, List.replicate N 0))]) H1 locs (cells + 1) → W p l e R s m args below meth c H1 locs (cells + 1) (slots + N) Q (F0 m (pc + 2) ls (.ref (sz + w.length) :: rest))) : W p l e R s m args below meth c H locs cells slots Q (F0 m pc ls (.int n :: rest)) := by
  have hat : t = 0 ∨ t = 1 ∨ t = 2 := by omega
  have hdf : defaultValue (gk_ty t) = .int 0 := by rcases hat with rfl | rfl | rfl <;> rfl
  have hcb : componentBytes (gk_ty t) ≤ 8 := by rcases hat with rfl | rfl | rfl <;> decide
  refine va_newa (a0 := (N, .inl (fun _ => 0))) (N' := N) hx hb (by rw [hty]; exact hK.2 _ harr args) hty hK.1 hI.1 (gk_w_D b sz cA w) hI.2.1 (fun q hq => Nat.le_trans hI.2.2.2.2 hq) (fun cZ => by rw [hdf]; rfl) hn hN (Nat.le_trans (Nat.mul_le_mul hby hcb) (by decide)) hcells hslots hd fun q cZ H1 hK1 hP hD hS => ?_
  have hcA : cZ = cA t := by
    have h1 := (hK1.2 4 (cZ, gk_ty t) rfl).2
    have h2 : va_RA s (cA t) (gk_ty t) := by
      rcases hat with rfl | rfl | rfl
      · exact (hK.1.2 0 _ rfl).2
      · exact (hK.1.2 1 _ rfl).2
      · exact (hK.1.2 2 _ rfl).2
    rcases hat with rfl | rfl | rfl <;> exact Option.some.inj ((show s.vm.findClass _ = some cZ from h1).symm.trans (show s.vm.findClass _ = some _ from h2))
  subst hcA
  refine gk_grown (c1 := .inr (.inl (t, List.replicate N 0))) (g := fun q => F0 m (pc + 2) ls (.ref q :: rest)) hI ?_ hP hD hS (kk H1)
  show Sum.inl (cA t, N, Sum.inl _) = Sum.inl (cA t, (List.replicate N (0 : Int32)).length, Sum.inl (fun j => (List.replicate N (0 : Int32)).getD j 0))
  rw [gk_rep, List.length_replicate]
theorem gk_newl (hx : p.tables.exec = Jvm.exec) (hb : c.code = cc) (hK : gk_K D cl cA LW s) (hI : gk_I D cl cA b sz s w H locs cells) {N : Nat} {n : Int32} {atype : ArrayType} (hty : newarray.typeOf atype = .long) (harr : Cond.arrayClass .long ∈ LW) (hn : ¬ n < 0) (hN : n.toNatClampNeg = N) (hby : N ≤ 60000) (hcells : cells + 1 ≤ R.cells) (hslots : slots + N ≤ R.slots) (hd : decode cc pc = .ok (.newarray atype, 2))
    (kk : ∀ H1 : Heap, gk_I D cl cA b sz s (w ++ [.inr (.inr (List.replicate N 0))]) H1 locs (cells + 1) → W p l e R s m args below meth c H1 locs (cells + 1) (slots + N) Q (F0 m (pc + 2) ls (.ref (sz + w.length) :: rest))) : W p l e R s m args below meth c H locs cells slots Q (F0 m pc ls (.int n :: rest)) := by
  have hcb : componentBytes .long ≤ 8 := by decide
  refine va_newa (a0 := (N, .inr (.inl (fun _ => 0)))) (N' := N) hx hb (by rw [hty]; exact hK.2 _ harr args) hty hK.1 hI.1 (gk_w_D b sz cA w) hI.2.1 (fun q hq => Nat.le_trans hI.2.2.2.2 hq) (fun cZ => rfl) hn hN (Nat.le_trans (Nat.mul_le_mul hby hcb) (by decide)) hcells hslots hd fun q cZ H1 hK1 hP hD hS => ?_
  have hcA : cZ = cA 3 := by
    have h1 := (hK1.2 4 (cZ, .long) rfl).2
    have h2 := (hK.1.2 3 _ rfl).2
    exact Option.some.inj ((show s.vm.findClass _ = some cZ from h1).symm.trans (show s.vm.findClass _ = some _ from h2))
  subst hcA
  refine gk_grown (c1 := .inr (.inr (List.replicate N 0))) (g := fun q => F0 m (pc + 2) ls (.ref q :: rest)) hI ?_ hP hD hS (kk H1)
  show Sum.inl (cA 3, N, Sum.inr (Sum.inl _)) = Sum.inl (cA 3, (List.replicate N (0 : Int64)).length, Sum.inr (Sum.inl (fun j => (List.replicate N (0 : Int64)).getD j 0)))
  rw [gk_repL, List.length_replicate]
theorem gk_copy (hx : p.tables.exec = Jvm.exec) (hb : c.code = cc) (hml : c.maxLocals = ls.size) (hK : gk_K D cl cA LW s) (hown : s.vm.findClass own = some m.cls) (hI : gk_I D cl cA b sz s w H locs cells) {a0 a1 idx : Nat} {f g : List Int64} {sp dp n : Int32}
    (h1 : Cond.methodLink own idx arraycopyName ∈ LW) (h2 : Cond.native arraycopyName ∈ LW) (h3 : Cond.static arraycopyName ∈ LW) (h4 : Cond.initialized "java/lang/System" ∈ LW) (ha0 : w[a0]? = some (.inr (.inr f))) (ha1 : w[a1]? = some (.inr (.inr g)))
    (n1 : ¬ sp < 0) (n2 : ¬ dp < 0) (n3 : ¬ n < 0) (m1 : sp.toNatClampNeg + n.toNatClampNeg ≤ f.length) (m2 : dp.toNatClampNeg + n.toNatClampNeg ≤ g.length) (hfr : 1 ≤ R.frames) (hlo : (rest.map fun v => v.category).sum + 18 ≤ R.locals) (hd : decode cc pc = .ok (.invokestatic idx, 3))
    (kk : ∀ (H1 : Heap) (locs1 : List Loc), gk_I D cl cA b sz s (w.set a1 (.inr (.inr (gk_cpy f g sp.toNatClampNeg dp.toNatClampNeg n.toNatClampNeg)))) H1 locs1 cells → W p l e R s m args below meth c H1 locs1 cells slots Q (F0 m (pc + 3) ls rest)) : W p l e R s m args below meth c H locs cells slots Q (F0 m pc ls (.int n :: .int dp :: .ref (sz + a1) :: .int sp :: .ref (sz + a0) :: rest)) := by
  refine va_copyl (f := fun j => f.getD j 0) (g := fun j => g.getD j 0) (n0 := f.length) (n1 := g.length) (c0 := cA 3) (c1 := cA 3) (ty := .long) hx hb hml hown (hK.2 _ h1 args) (hK.2 _ h2 args) (hK.2 _ h3 args) (hK.2 _ h4 args) hK.1 hI.1 (gk_w_D b sz cA w) hI.2.1 a0 a1 3 3 (gk_w_at ha0) (gk_w_at ha1) rfl rfl rfl n1 n2 n3 m1 m2 (fun _ _ => rfl) hfr (by simpa [nativeFrameWords] using hlo) hd fun H1 locs1 hP _ hS => gk_back hI ha1 ?_ hP hS (kk H1 locs1)
  show Sum.inl (cA 3, g.length, Sum.inr (Sum.inl _)) = Sum.inl (cA 3, (gk_cpy f g sp.toNatClampNeg dp.toNatClampNeg n.toNatClampNeg).length, Sum.inr (Sum.inl _))
  rw [gk_cpy_fun f g _ _ _ m1 m2, gk_cpy_len f g _ _ _ m1 m2]
end GK4
end
section
/-! part 5: the interpreter. A program is its tables:
 1 instructions by method and pc; 2 fields read (class, place) by method and pool index; 3 fields written; 4 classes made; 5 constants; 6 calls (kind, method or class, arguments, receiver's class): kind 0 static, 1 virtual, 2 constructor, 3 Object(), 4 arraycopy of longs, 5 Math.min of longs; 7 locals and answer's type of a method; 8 a new object's fields; 9 field types; 10 slots of a class; 11 throws: class thrown, by method and pc; 12 handlers by method, pc, class -/
abbrev gk_Pg : Type := (Nat → Nat → Option Instr) × (Nat → Nat → Option (Nat × Nat)) × (Nat → Nat → Option (Nat × Nat)) × (Nat → Nat → Option Nat) × (Nat → Nat → Option Value) × (Nat → Nat → Option (Nat × Nat × Nat × Nat)) × (Nat → Nat × Option FieldType) × (Nat → List Value) × (Nat → Nat → FieldType) × (Nat → Nat) × (Nat → Nat → Option Nat) × (Nat → Nat → Nat → Option Nat)
def gk_dec (P : gk_Pg) : Nat → Nat → Option Instr := P.1
def gk_fld (P : gk_Pg) : Nat → Nat → Option (Nat × Nat) := P.2.1
def gk_pfl (P : gk_Pg) : Nat → Nat → Option (Nat × Nat) := P.2.2.1
def gk_nwc (P : gk_Pg) : Nat → Nat → Option Nat := P.2.2.2.1
def gk_cst (P : gk_Pg) : Nat → Nat → Option Value := P.2.2.2.2.1
def gk_mth (P : gk_Pg) : Nat → Nat → Option (Nat × Nat × Nat × Nat) := P.2.2.2.2.2.1
def gk_inf (P : gk_Pg) : Nat → Nat × Option FieldType := P.2.2.2.2.2.2.1
def gk_dfl (P : gk_Pg) : Nat → List Value := P.2.2.2.2.2.2.2.1
def gk_fty (P : gk_Pg) : Nat → Nat → FieldType := P.2.2.2.2.2.2.2.2.1
def gk_nsl (P : gk_Pg) : Nat → Nat := P.2.2.2.2.2.2.2.2.2.1
def gk_xnw (P : gk_Pg) : Nat → Nat → Option Nat := P.2.2.2.2.2.2.2.2.2.2.1
def gk_hnd (P : gk_Pg) : Nat → Nat → Nat → Option Nat := P.2.2.2.2.2.2.2.2.2.2.2
abbrev gk_HR : Type := Option (List Value × gk_Wd)
def gk_hget (o : Option (Nat × Nat)) (w : gk_Wd) (st : List Value) : gk_HR := match o, st with
  | some (ci, k), .ref (a + 1) :: r => (match w[a]? with
    | some (.inl (cj, fs)) => if cj = ci then (match fs[k]? with
      | some v => some (v :: r, w)
      | none => none) else none
    | _ => none)
  | _, _ => none
def gk_hput (o : Option (Nat × Nat)) (ft : Nat → Nat → FieldType) (w : gk_Wd) (st : List Value) : gk_HR := match o, st with
  | some (ci, k), v :: .ref (a + 1) :: r => (match w[a]? with
    | some (.inl (cj, fs)) => if cj = ci ∧ k < fs.length ∧ fits (ft ci k) v = true then some (r, w.set a (.inl (ci, fs.set k v))) else none
    | _ => none)
  | _, _ => none
def gk_out (i : Int32) (n : Nat) : Bool := decide (i < 0 ∨ n ≤ i.toNatClampNeg)
def gk_hald (t : Nat) (scr : Option (List Int32)) (w : gk_Wd) (st : List Value) : gk_HR := match st with
  | .int i :: .ref 0 :: r => (match scr with
    | some xs => if t = 0 ∧ gk_out i xs.length = false then some (.int (xs.getD i.toNatClampNeg 0) :: r, w) else none
    | none => none)
  | .int i :: .ref (a + 1) :: r => (match w[a]? with
    | some (.inr (.inl (u, xs))) => if u = t ∧ gk_out i xs.length = false then some (.int (xs.getD i.toNatClampNeg 0) :: r, w) else none
    | _ => none)
  | _ => none
def gk_hlld (w : gk_Wd) (st : List Value) : gk_HR := match st with
  | .int i :: .ref (a + 1) :: r => (match w[a]? with
    | some (.inr (.inr xs)) => if gk_out i xs.length = false then some (.long (xs.getD i.toNatClampNeg 0) :: r, w) else none
    | _ => none)
  | _ => none
def gk_hast (t : Nat) (w : gk_Wd) (st : List Value) : gk_HR := match st with
  | .int x :: .int i :: .ref (a + 1) :: r => (match w[a]? with
    | some (.inr (.inl (u, xs))) => if u = t ∧ gk_out i xs.length = false ∧ fits (gk_ty t) (.int x) = true then some (r, w.set a (.inr (.inl (t, xs.set i.toNatClampNeg x)))) else none
    | _ => none)
  | _ => none
def gk_hlst (w : gk_Wd) (st : List Value) : gk_HR := match st with
  | .long x :: .int i :: .ref (a + 1) :: r => (match w[a]? with
    | some (.inr (.inr xs)) => if gk_out i xs.length = false then some (r, w.set a (.inr (.inr (xs.set i.toNatClampNeg x)))) else none
    | _ => none)
  | _ => none
def gk_hlen (scr : Option (List Int32)) (w : gk_Wd) (st : List Value) : gk_HR := match st with
  | .ref 0 :: r => (match scr with
    | some xs => some (.int (Int32.ofNat xs.length) :: r, w)
    | none => none)
  | .ref (a + 1) :: r => (match w[a]? with
    | some (.inr (.inl (t, xs))) => if t < 3 then some (.int (Int32.ofNat xs.length) :: r, w) else none
    | _ => none)
  | _ => none
def gk_hnew (o : Option Nat) (df : Nat → List Value) (w : gk_Wd) (st : List Value) : gk_HR := match o with
  | some ci => some (.ref (w.length + 1) :: st, w ++ [.inl (ci, df ci)])
  | none => none
def gk_harr (ty : ArrayType) (w : gk_Wd) (st : List Value) : gk_HR := match st with
  | .int n :: r => if n < 0 ∨ 60000 < n.toNatClampNeg then none else (match ty with
    | .int => some (.ref (w.length + 1) :: r, w ++ [.inr (.inl (0, List.replicate n.toNatClampNeg 0))])
    | .char => some (.ref (w.length + 1) :: r, w ++ [.inr (.inl (1, List.replicate n.toNatClampNeg 0))])
    | .boolean => some (.ref (w.length + 1) :: r, w ++ [.inr (.inl (2, List.replicate n.toNatClampNeg 0))])
    | .long => some (.ref (w.length + 1) :: r, w ++ [.inr (.inr (List.replicate n.toNatClampNeg 0))])
    | _ => none)
  | _ => none
def gk_hldi (o : Option Value) (w : gk_Wd) (st : List Value) : gk_HR := match o with
  | some (.int x) => some (.int x :: st, w)
  | _ => none
def gk_hldl (o : Option Value) (w : gk_Wd) (st : List Value) : gk_HR := match o with
  | some (.long x) => some (.long x :: st, w)
  | _ => none
def gk_cat (st : List Value) : Nat := (st.map fun v => v.category).sum
def gk_hobj (w : gk_Wd) (st : List Value) : gk_HR := match st with
  | .ref _ :: r => if gk_cat r ≤ 8 then some (r, w) else none
  | _ => none
def gk_hcpy (w : gk_Wd) (st : List Value) : gk_HR := match st with
  | .int n :: .int dp :: .ref (a1 + 1) :: .int sp :: .ref (a0 + 1) :: r => (match w[a0]?, w[a1]? with
    | some (.inr (.inr f)), some (.inr (.inr g)) => if ¬ sp < 0 ∧ ¬ dp < 0 ∧ ¬ n < 0 ∧ sp.toNatClampNeg + n.toNatClampNeg ≤ f.length ∧ dp.toNatClampNeg + n.toNatClampNeg ≤ g.length ∧ gk_cat r ≤ 8 then some (r, w.set a1 (.inr (.inr (gk_cpy f g sp.toNatClampNeg dp.toNatClampNeg n.toNatClampNeg)))) else none
    | _, _ => none)
  | _ => none
def gk_hmin (w : gk_Wd) (st : List Value) : gk_HR := match st with
  | .long y :: .long x :: r => if gk_cat r ≤ 8 then some (.long (if y < x then y else x) :: r, w) else none
  | _ => none
def gk_heap (P : gk_Pg) (scr : Option (List Int32)) (mi : Nat) (w : gk_Wd) (st : List Value) (i : Instr) : gk_HR := match i with
  | .getfield k => gk_hget (gk_fld P mi k) w st
  | .putfield k => gk_hput (gk_pfl P mi k) (gk_fty P) w st
  | .iaload => gk_hald 0 scr w st
  | .caload => gk_hald 1 scr w st
  | .baload => gk_hald 2 scr w st
  | .laload => gk_hlld w st
  | .iastore => gk_hast 0 w st
  | .castore => gk_hast 1 w st
  | .bastore => gk_hast 2 w st
  | .lastore => gk_hlst w st
  | .arraylength => gk_hlen scr w st
  | .new k => gk_hnew (gk_nwc P mi k) (gk_dfl P) w st
  | .newarray ty => gk_harr ty w st
  | .ldc k => gk_hldi (gk_cst P mi k) w st
  | .ldc_w k => gk_hldi (gk_cst P mi k) w st
  | .ldc2_w k => gk_hldl (gk_cst P mi k) w st
  | .invokespecial k => (match gk_mth P mi k with
    | some (3, _, _, _) => gk_hobj w st
    | _ => none)
  | .invokestatic k => (match gk_mth P mi k with
    | some (4, _, _, _) => gk_hcpy w st
    | some (5, _, _, _) => gk_hmin w st
    | _ => none)
  | _ => none
/-- a call: the method, its arguments, what is left of the operands -/
def gk_call (P : gk_Pg) (mi : Nat) (w : gk_Wd) (st : List Value) (i : Instr) : Option (Nat × List Value × List Value) := match i with
  | .invokestatic k => (match gk_mth P mi k with
    | some (0, mj, na, _) => if na ≤ st.length ∧ gk_cat (st.drop na) ≤ 8 then some (mj, (st.take na).reverse, st.drop na) else none
    | _ => none)
  | .invokevirtual k => (match gk_mth P mi k with
    | some (1, mj, na, ci) => (match st.drop na with
      | .ref (a + 1) :: r => (match w[a]? with
        | some (.inl (cj, _)) => if cj = ci ∧ gk_cat r ≤ 8 then some (mj, .ref (a + 1) :: (st.take na).reverse, r) else none
        | _ => none)
      | _ => none)
    | _ => none)
  | .invokespecial k => (match gk_mth P mi k with
    | some (2, mj, na, _) => (match st.drop na with
      | .ref a :: r => if gk_cat r ≤ 8 then some (mj, .ref a :: (st.take na).reverse, r) else none
      | _ => none)
    | _ => none)
  | _ => none
/-- a return: its value -/
def gk_ret (ty : Option FieldType) (st : List Value) (i : Instr) : Option (Option Value) := match i with
  | .return_ => (match ty, st with
    | none, [] => some none
    | _, _ => none)
  | .ireturn => (match ty, st with
    | some ty, [.int x] => if fits ty (.int x) = true then some (some (.int x)) else none
    | _, _ => none)
  | .lreturn => (match ty, st with
    | some .long, [.long x] => some (some (.long x))
    | _, _ => none)
  | _ => none
def gk_slots (v : Value) : List (Option Value) := if v.category = 2 then [some v, none] else [some v]
def gk_entry (as : List Value) (n : Nat) : gk_Lc := as.flatMap gk_slots ++ List.replicate (n - (as.flatMap gk_slots).length) none
abbrev gk_Res : Type := Option Value ⊕ Nat
abbrev gk_Out : Type := Option (gk_Res × gk_Wd)
/-- n steps at most, d calls deep at most; the script is the law's alone. An answer, or the class of what was thrown (its object is then the world's last cell) -/
def gk_run (P : gk_Pg) : Nat → Option (List Int32) → Nat → Nat → Nat → gk_Lc → List Value → gk_Wd → gk_Out
  | 0, _, _, _, _, _, _, _ => none
  | n + 1, scr, d, mi, pc, l, st, w => match gk_dec P mi pc with
    | none => none
    | some i => match gk_pure pc l st i with
      | some q => gk_run P n scr d mi q.1 q.2.1 q.2.2 w
      | none => match gk_xnw P mi pc with
        | some ci => if gk_cat st ≤ 8 ∧ 5 ≤ d then some (.inr ci, w ++ [.inl (ci, [])]) else none
        | none => match gk_heap P scr mi w st i with
          | some q => gk_run P n scr d mi (pc + gk_len i) l q.1 q.2
          | none => match gk_ret (gk_inf P mi).2 st i with
            | some r => some (.inl r, w)
            | none => match d, gk_call P mi w st i with
              | d' + 1, some (mj, as, r) => if (as.flatMap gk_slots).length ≤ (gk_inf P mj).1 then (match gk_run P n none d' mj 0 (gk_entry as (gk_inf P mj).1) [] w with
                | some (.inl v, w1) => gk_run P n scr d mi (pc + 3) l (v.toList ++ r) w1
                | some (.inr ci, w1) => (match gk_hnd P mi pc ci with
                  | some h => gk_run P n scr d mi h l [.ref w1.length] w1
                  | none => none)
                | none => none) else none
              | _, _ => none
end
section
/-! part 6: what each heap instruction was, if the interpreter went on; the world only grows -/
def gk_cs (ns : Nat → Nat) (c : gk_AC) : Nat := match c with
  | .inl o => ns o.1
  | .inr (.inl a) => a.2.length
  | .inr (.inr a) => a.length
def gk_sl (ns : Nat → Nat) (w : gk_Wd) : Nat := (w.map (gk_cs ns)).sum
theorem gk_sl_set {ns : Nat → Nat} {w : gk_Wd} {a : Nat} {c c1 : gk_AC} (h : w[a]? = some c) (hc : gk_cs ns c1 = gk_cs ns c) : gk_sl ns (w.set a c1) = gk_sl ns w := by
  unfold gk_sl
  rw [List.map_set]
  congr 1
  apply List.ext_getElem?
  intro j
  rw [List.getElem?_set]
  by_cases hj : a = j
  · subst hj
    have hl : a < (w.map (gk_cs ns)).length := by rw [List.length_map]; exact (List.getElem?_eq_some_iff.mp h).1
    rw [if_pos rfl, if_pos hl, List.getElem?_map, h, hc]
    rfl
  · rw [if_neg hj]
theorem gk_sl_push {ns : Nat → Nat} {w : gk_Wd} {c : gk_AC} : gk_sl ns (w ++ [c]) = gk_sl ns w + gk_cs ns c := by
  simp [gk_sl]
theorem gk_hget_inv {o : Option (Nat × Nat)} {w : gk_Wd} {st : List Value} {q : List Value × gk_Wd} (h : gk_hget o w st = some q) : ∃ (ci k a : Nat) (r fs : List Value) (v : Value), o = some (ci, k) ∧ st = .ref (a + 1) :: r ∧ w[a]? = some (.inl (ci, fs)) ∧ fs[k]? = some v ∧ q = (v :: r, w) := by
  unfold gk_hget at h
  split at h
  · rename_i ci k a r
    split at h
    · rename_i cj fs hw
      split at h
      · rename_i he
        subst he
        split at h
        · rename_i v hv
          cases h
          exact ⟨_, k, a, r, fs, v, rfl, rfl, hw, hv, rfl⟩
        · cases h
      · cases h
    · cases h
  · cases h
theorem gk_hput_inv {o : Option (Nat × Nat)} {ft : Nat → Nat → FieldType} {w : gk_Wd} {st : List Value} {q : List Value × gk_Wd} (h : gk_hput o ft w st = some q) : ∃ (ci k a : Nat) (r fs : List Value) (v : Value), o = some (ci, k) ∧ st = v :: .ref (a + 1) :: r ∧ w[a]? = some (.inl (ci, fs)) ∧ k < fs.length ∧ fits (ft ci k) v = true ∧ q = (r, w.set a (.inl (ci, fs.set k v))) := by
  unfold gk_hput at h
  split at h
  · rename_i ci k v a r
    split at h
    · rename_i cj fs hw
      split at h
      · rename_i he
        obtain ⟨rfl, h1, h2⟩ := he
        cases h
        exact ⟨_, k, a, r, fs, v, rfl, rfl, hw, h1, h2, rfl⟩
      · cases h
    · cases h
  · cases h
theorem gk_out_in {i : Int32} {n : Nat} (h : gk_out i n = false) : vp_in i n := of_decide_eq_false h
theorem gk_hald_inv {t : Nat} {scr : Option (List Int32)} {w : gk_Wd} {st : List Value} {q : List Value × gk_Wd} (h : gk_hald t scr w st = some q) : (∃ (i : Int32) (r : List Value) (xs : List Int32), scr = some xs ∧ t = 0 ∧ st = .int i :: .ref 0 :: r ∧ vp_in i xs.length ∧ q = (.int (xs.getD i.toNatClampNeg 0) :: r, w)) ∨ ∃ (i : Int32) (a : Nat) (r : List Value) (xs : List Int32), st = .int i :: .ref (a + 1) :: r ∧ w[a]? = some (.inr (.inl (t, xs))) ∧ vp_in i xs.length ∧ q = (.int (xs.getD i.toNatClampNeg 0) :: r, w) := by
  unfold gk_hald at h
  split at h
  · rename_i i r
    split at h
    · rename_i xs
      split at h
      · rename_i he
        cases h
        exact Or.inl ⟨i, r, xs, rfl, he.1, rfl, gk_out_in he.2, rfl⟩
      · cases h
    · cases h
  · rename_i i a r
    split at h
    · rename_i u xs hw
      split at h
      · rename_i he
        obtain ⟨rfl, h2⟩ := he
        cases h
        exact Or.inr ⟨i, a, r, xs, rfl, hw, gk_out_in h2, rfl⟩
      · cases h
    · cases h
  · cases h
theorem gk_hlld_inv {w : gk_Wd} {st : List Value} {q : List Value × gk_Wd} (h : gk_hlld w st = some q) : ∃ (i : Int32) (a : Nat) (r : List Value) (xs : List Int64), st = .int i :: .ref (a + 1) :: r ∧ w[a]? = some (.inr (.inr xs)) ∧ vp_in i xs.length ∧ q = (.long (xs.getD i.toNatClampNeg 0) :: r, w) := by
  unfold gk_hlld at h
  split at h
  · rename_i i a r
    split at h
    · rename_i xs hw
      split at h
      · rename_i he
        cases h
        exact ⟨i, a, r, xs, rfl, hw, gk_out_in he, rfl⟩
      · cases h
    · cases h
  · cases h
theorem gk_hast_inv {t : Nat} {w : gk_Wd} {st : List Value} {q : List Value × gk_Wd} (h : gk_hast t w st = some q) : ∃ (x i : Int32) (a : Nat) (r : List Value) (xs : List Int32), st = .int x :: .int i :: .ref (a + 1) :: r ∧ w[a]? = some (.inr (.inl (t, xs))) ∧ vp_in i xs.length ∧ fits (gk_ty t) (.int x) = true ∧ q = (r, w.set a (.inr (.inl (t, xs.set i.toNatClampNeg x)))) := by
  unfold gk_hast at h
  split at h
  · rename_i x i a r
    split at h
    · rename_i u xs hw
      split at h
      · rename_i he
        obtain ⟨rfl, h2, h3⟩ := he
        cases h
        exact ⟨x, i, a, r, xs, rfl, hw, gk_out_in h2, h3, rfl⟩
      · cases h
    · cases h
  · cases h
theorem gk_hlst_inv {w : gk_Wd} {st : List Value} {q : List Value × gk_Wd} (h : gk_hlst w st = some q) : ∃ (x : Int64) (i : Int32) (a : Nat) (r : List Value) (xs : List Int64), st = .long x :: .int i :: .ref (a + 1) :: r ∧ w[a]? = some (.inr (.inr xs)) ∧ vp_in i xs.length ∧ q = (r, w.set a (.inr (.inr (xs.set i.toNatClampNeg x)))) := by
  unfold gk_hlst at h
  split at h
  · rename_i x i a r
    split at h
    · rename_i xs hw
      split at h
      · rename_i he
        cases h
        exact ⟨x, i, a, r, xs, rfl, hw, gk_out_in he, rfl⟩
      · cases h
    · cases h
  · cases h
theorem gk_hlen_inv {scr : Option (List Int32)} {w : gk_Wd} {st : List Value} {q : List Value × gk_Wd} (h : gk_hlen scr w st = some q) : (∃ (r : List Value) (xs : List Int32), scr = some xs ∧ st = .ref 0 :: r ∧ q = (.int (Int32.ofNat xs.length) :: r, w)) ∨ ∃ (a t : Nat) (r : List Value) (xs : List Int32), st = .ref (a + 1) :: r ∧ w[a]? = some (.inr (.inl (t, xs))) ∧ t < 3 ∧ q = (.int (Int32.ofNat xs.length) :: r, w) := by
  unfold gk_hlen at h
  split at h
  · split at h
    · cases h
      exact Or.inl ⟨_, _, rfl, rfl, rfl⟩
    · cases h
  · rename_i a r
    split at h
    · rename_i t xs hw
      split at h
      · rename_i ht
        cases h
        exact Or.inr ⟨a, t, r, xs, rfl, hw, ht, rfl⟩
      · cases h
    · cases h
  · cases h
theorem gk_hnew_inv {o : Option Nat} {df : Nat → List Value} {w : gk_Wd} {st : List Value} {q : List Value × gk_Wd} (h : gk_hnew o df w st = some q) : ∃ ci : Nat, o = some ci ∧ q = (.ref (w.length + 1) :: st, w ++ [.inl (ci, df ci)]) := by
  unfold gk_hnew at h
  split at h
  · cases h
    exact ⟨_, rfl, rfl⟩
  · cases h
theorem gk_harr_inv {ty : ArrayType} {w : gk_Wd} {st : List Value} {q : List Value × gk_Wd} (h : gk_harr ty w st = some q) : ∃ (n : Int32) (r : List Value), st = .int n :: r ∧ ¬ n < 0 ∧ n.toNatClampNeg ≤ 60000 ∧ ((∃ t : Nat, t < 3 ∧ newarray.typeOf ty = gk_ty t ∧ q = (.ref (w.length + 1) :: r, w ++ [.inr (.inl (t, List.replicate n.toNatClampNeg 0))])) ∨ (newarray.typeOf ty = .long ∧ q = (.ref (w.length + 1) :: r, w ++ [.inr (.inr (List.replicate n.toNatClampNeg 0))]))) := by
  unfold gk_harr at h
  split at h
  · rename_i n r
    split at h
    · cases h
    · rename_i hn
      have h1 : ¬ n < 0 := fun z => hn (Or.inl z)
      have h2 : n.toNatClampNeg ≤ 60000 := Nat.not_lt.mp fun z => hn (Or.inr z)
      split at h
      · cases h
        exact ⟨n, r, rfl, h1, h2, Or.inl ⟨0, by decide, rfl, rfl⟩⟩
      · cases h
        exact ⟨n, r, rfl, h1, h2, Or.inl ⟨1, by decide, rfl, rfl⟩⟩
      · cases h
        exact ⟨n, r, rfl, h1, h2, Or.inl ⟨2, by decide, rfl, rfl⟩⟩
      · cases h
        exact ⟨n, r, rfl, h1, h2, Or.inr ⟨rfl, rfl⟩⟩
      · cases h
  · cases h
theorem gk_hldi_inv {o : Option Value} {w : gk_Wd} {st : List Value} {q : List Value × gk_Wd} (h : gk_hldi o w st = some q) : ∃ x : Int32, o = some (.int x) ∧ q = (.int x :: st, w) := by
  unfold gk_hldi at h
  split at h
  · cases h
    exact ⟨_, rfl, rfl⟩
  · cases h
theorem gk_hldl_inv {o : Option Value} {w : gk_Wd} {st : List Value} {q : List Value × gk_Wd} (h : gk_hldl o w st = some q) : ∃ x : Int64, o = some (.long x) ∧ q = (.long x :: st, w) := by
  unfold gk_hldl at h
  split at h
  · cases h
    exact ⟨_, rfl, rfl⟩
  · cases h
theorem gk_hobj_inv {w : gk_Wd} {st : List Value} {q : List Value × gk_Wd} (h : gk_hobj w st = some q) : ∃ (a : Nat) (r : List Value), st = .ref a :: r ∧ gk_cat r ≤ 8 ∧ q = (r, w) := by
  unfold gk_hobj at h
  split at h
  · split at h
    · rename_i hr
      cases h
      exact ⟨_, _, rfl, hr, rfl⟩
    · cases h
  · cases h
theorem gk_hcpy_inv {w : gk_Wd} {st : List Value} {q : List Value × gk_Wd} (h : gk_hcpy w st = some q) : ∃ (n dp sp : Int32) (a1 a0 : Nat) (r : List Value) (f g : List Int64), st = .int n :: .int dp :: .ref (a1 + 1) :: .int sp :: .ref (a0 + 1) :: r ∧ w[a0]? = some (.inr (.inr f)) ∧ w[a1]? = some (.inr (.inr g)) ∧ (¬ sp < 0 ∧ ¬ dp < 0 ∧ ¬ n < 0 ∧ sp.toNatClampNeg + n.toNatClampNeg ≤ f.length ∧ dp.toNatClampNeg + n.toNatClampNeg ≤ g.length ∧ gk_cat r ≤ 8) ∧ q = (r, w.set a1 (.inr (.inr (gk_cpy f g sp.toNatClampNeg dp.toNatClampNeg n.toNatClampNeg)))) := by
  unfold gk_hcpy at h
  split at h
  · rename_i n dp a1 sp a0 r
    split at h
    · rename_i f g h0 h1
      split at h
      · rename_i hc
        cases h
        exact ⟨n, dp, sp, a1, a0, r, f, g, rfl, h0, h1, hc, rfl⟩
      · cases h
    · cases h
  · cases h
theorem gk_hmin_inv {w : gk_Wd} {st : List Value} {q : List Value × gk_Wd} (h : gk_hmin w st = some q) : ∃ (x y : Int64) (r : List Value), st = .long y :: .long x :: r ∧ gk_cat r ≤ 8 ∧ q = (.long (if y < x then y else x) :: r, w) := by
  unfold gk_hmin at h
  split at h
  · split at h
    · rename_i hr
      cases h
      exact ⟨_, _, _, rfl, hr, rfl⟩
    · cases h
  · cases h
/-- the three members of the library -/
theorem gk_spec_inv {P : gk_Pg} {scr : Option (List Int32)} {mi k : Nat} {w : gk_Wd} {st : List Value} {q : List Value × gk_Wd} (h : gk_heap P scr mi w st (.invokespecial k) = some q) : (∃ x y z : Nat, gk_mth P mi k = some (3, x, y, z)) ∧ gk_hobj w st = some q := by
  simp only [gk_heap] at h
  split at h
  · rename_i x y z hm
    exact ⟨⟨x, y, z, hm⟩, h⟩
  · cases h
theorem gk_stat_inv {P : gk_Pg} {scr : Option (List Int32)} {mi k : Nat} {w : gk_Wd} {st : List Value} {q : List Value × gk_Wd} (h : gk_heap P scr mi w st (.invokestatic k) = some q) : ((∃ x y z : Nat, gk_mth P mi k = some (4, x, y, z)) ∧ gk_hcpy w st = some q) ∨ ((∃ x y z : Nat, gk_mth P mi k = some (5, x, y, z)) ∧ gk_hmin w st = some q) := by
  simp only [gk_heap] at h
  split at h
  · rename_i x y z hm
    exact Or.inl ⟨⟨x, y, z, hm⟩, h⟩
  · rename_i x y z hm
    exact Or.inr ⟨⟨x, y, z, hm⟩, h⟩
  · cases h
theorem gk_heap_mono {P : gk_Pg} {scr : Option (List Int32)} {mi : Nat} {w : gk_Wd} {st : List Value} {i : Instr} {q : List Value × gk_Wd} (h : gk_heap P scr mi w st i = some q) : w.length ≤ q.2.length ∧ gk_sl (gk_nsl P) w ≤ gk_sl (gk_nsl P) q.2 := by
  cases i with
  | getfield k =>
    obtain ⟨ci, k, a, r, fs, v, -, -, -, -, rfl⟩ := gk_hget_inv h
    exact ⟨Nat.le_refl _, Nat.le_refl _⟩
  | putfield k =>
    obtain ⟨ci, k, a, r, fs, v, -, -, hw, -, -, rfl⟩ := gk_hput_inv h
    exact ⟨by simp, Nat.le_of_eq (gk_sl_set (c1 := .inl (ci, fs.set k v)) hw rfl).symm⟩
  | iaload =>
    rcases gk_hald_inv h with ⟨i, r, xs, -, -, -, -, rfl⟩ | ⟨i, a, r, xs, -, -, -, rfl⟩ <;> exact ⟨Nat.le_refl _, Nat.le_refl _⟩
  | caload =>
    rcases gk_hald_inv h with ⟨i, r, xs, -, -, -, -, rfl⟩ | ⟨i, a, r, xs, -, -, -, rfl⟩ <;> exact ⟨Nat.le_refl _, Nat.le_refl _⟩
  | baload =>
    rcases gk_hald_inv h with ⟨i, r, xs, -, -, -, -, rfl⟩ | ⟨i, a, r, xs, -, -, -, rfl⟩ <;> exact ⟨Nat.le_refl _, Nat.le_refl _⟩
  | laload =>
    obtain ⟨i, a, r, xs, -, -, -, rfl⟩ := gk_hlld_inv h
    exact ⟨Nat.le_refl _, Nat.le_refl _⟩
  | iastore =>
    obtain ⟨x, i, a, r, xs, -, hw, -, -, rfl⟩ := gk_hast_inv h
    exact ⟨by simp, Nat.le_of_eq (gk_sl_set hw (by simp [gk_cs])).symm⟩
  | castore =>
    obtain ⟨x, i, a, r, xs, -, hw, -, -, rfl⟩ := gk_hast_inv h
    exact ⟨by simp, Nat.le_of_eq (gk_sl_set hw (by simp [gk_cs])).symm⟩
  | bastore =>
    obtain ⟨x, i, a, r, xs, -, hw, -, -, rfl⟩ := gk_hast_inv h
    exact ⟨by simp, Nat.le_of_eq (gk_sl_set hw (by simp [gk_cs])).symm⟩
  | lastore =>
    obtain ⟨x, i, a, r, xs, -, hw, -, rfl⟩ := gk_hlst_inv h
    exact ⟨by simp, Nat.le_of_eq (gk_sl_set hw (by simp [gk_cs])).symm⟩
  | arraylength =>
    rcases gk_hlen_inv h with ⟨r, xs, -, -, rfl⟩ | ⟨a, t, r, xs, -, -, -, rfl⟩ <;> exact ⟨Nat.le_refl _, Nat.le_refl _⟩
  | new k =>
    obtain ⟨ci, -, rfl⟩ := gk_hnew_inv h
    exact ⟨by simp, by rw [gk_sl_push]; omega⟩
  | newarray ty =>
    obtain ⟨n, r, -, -, -, ⟨t, -, -, rfl⟩ | ⟨-, rfl⟩⟩ := gk_harr_inv h <;> exact ⟨by simp, by rw [gk_sl_push]; omega⟩
  | ldc k =>
    obtain ⟨x, -, rfl⟩ := gk_hldi_inv h
    exact ⟨Nat.le_refl _, Nat.le_refl _⟩
  | ldc_w k =>
    obtain ⟨x, -, rfl⟩ := gk_hldi_inv h
    exact ⟨Nat.le_refl _, Nat.le_refl _⟩
  | ldc2_w k =>
    obtain ⟨x, -, rfl⟩ := gk_hldl_inv h
    exact ⟨Nat.le_refl _, Nat.le_refl _⟩
  | invokespecial k =>
    obtain ⟨a, r, -, -, rfl⟩ := gk_hobj_inv (gk_spec_inv h).2
    exact ⟨Nat.le_refl _, Nat.le_refl _⟩
  | invokestatic k =>
    rcases gk_stat_inv h with ⟨-, h⟩ | ⟨-, h⟩
    · obtain ⟨n, dp, sp, a1, a0, r, f, g, -, h0, h1, hc, rfl⟩ := gk_hcpy_inv h
      exact ⟨by simp, Nat.le_of_eq (gk_sl_set h1 (by simp only [gk_cs]; exact gk_cpy_len f g _ _ _ hc.2.2.2.1 hc.2.2.2.2.1)).symm⟩
    · obtain ⟨x, y, r, -, -, rfl⟩ := gk_hmin_inv h
      exact ⟨Nat.le_refl _, Nat.le_refl _⟩
  | _ => cases h
/-- one step of the interpreter, by what it was -/
theorem gk_run_inv {P : gk_Pg} {scr : Option (List Int32)} {n d mi pc : Nat} {l : gk_Lc} {st : List Value} {w : gk_Wd} {q : gk_Res × gk_Wd} (h : gk_run P (n + 1) scr d mi pc l st w = some q) : ∃ i : Instr, gk_dec P mi pc = some i ∧
    ((∃ x : gk_Pt, gk_pure pc l st i = some x ∧ gk_run P n scr d mi x.1 x.2.1 x.2.2 w = some q) ∨
    (∃ ci : Nat, gk_xnw P mi pc = some ci ∧ (gk_cat st ≤ 8 ∧ 5 ≤ d) ∧ q = (.inr ci, w ++ [.inl (ci, [])])) ∨
    (∃ x : List Value × gk_Wd, gk_heap P scr mi w st i = some x ∧ gk_run P n scr d mi (pc + gk_len i) l x.1 x.2 = some q) ∨
    (∃ r : Option Value, gk_ret (gk_inf P mi).2 st i = some r ∧ q = (.inl r, w)) ∨
    ∃ (d' mj : Nat) (as r : List Value), d = d' + 1 ∧ gk_call P mi w st i = some (mj, as, r) ∧ (as.flatMap gk_slots).length ≤ (gk_inf P mj).1 ∧
      ((∃ (v : Option Value) (w1 : gk_Wd), gk_run P n none d' mj 0 (gk_entry as (gk_inf P mj).1) [] w = some (.inl v, w1) ∧ gk_run P n scr d mi (pc + 3) l (v.toList ++ r) w1 = some q) ∨
      ∃ (ci h : Nat) (w1 : gk_Wd), gk_run P n none d' mj 0 (gk_entry as (gk_inf P mj).1) [] w = some (.inr ci, w1) ∧ gk_hnd P mi pc ci = some h ∧ gk_run P n scr d mi h l [.ref w1.length] w1 = some q)) := by
  rw [gk_run] at h
  split at h
  · cases h
  · rename_i i hi
    refine ⟨i, hi, ?_⟩
    split at h
    · rename_i x hx
      exact Or.inl ⟨x, hx, h⟩
    · split at h
      · rename_i ci hci
        split at h
        · rename_i hc
          cases h
          exact Or.inr (Or.inl ⟨ci, hci, hc, rfl⟩)
        · cases h
      · split at h
        · rename_i x hx
          exact Or.inr (Or.inr (Or.inl ⟨x, hx, h⟩))
        · split at h
          · rename_i r hr
            cases h
            exact Or.inr (Or.inr (Or.inr (Or.inl ⟨r, hr, rfl⟩)))
          · split at h
            · rename_i d' mj as r hcall
              split at h
              · rename_i hfit
                split at h
                · rename_i v w1 hrun
                  exact Or.inr (Or.inr (Or.inr (Or.inr ⟨d', mj, as, r, rfl, hcall, hfit, Or.inl ⟨v, w1, hrun, h⟩⟩)))
                · rename_i ci w1 hrun
                  split at h
                  · rename_i hp hh
                    exact Or.inr (Or.inr (Or.inr (Or.inr ⟨d', mj, as, r, rfl, hcall, hfit, Or.inr ⟨ci, hp, w1, hrun, hh, h⟩⟩)))
                  · cases h
                · cases h
              · cases h
            · cases h
theorem gk_run_mono {P : gk_Pg} : ∀ (n : Nat) (scr : Option (List Int32)) (d mi pc : Nat) (l : gk_Lc) (st : List Value) (w : gk_Wd) (q : gk_Res × gk_Wd), gk_run P n scr d mi pc l st w = some q → w.length ≤ q.2.length ∧ gk_sl (gk_nsl P) w ≤ gk_sl (gk_nsl P) q.2
  | 0, scr, d, mi, pc, l, st, w, q, h => by simp [gk_run] at h
  | n + 1, scr, d, mi, pc, l, st, w, q, h => by
    obtain ⟨i, -, h | h | h | h | h⟩ := gk_run_inv h
    · obtain ⟨x, -, h⟩ := h
      exact gk_run_mono n _ _ _ _ _ _ _ _ h
    · obtain ⟨ci, -, -, rfl⟩ := h
      exact ⟨by simp, by rw [gk_sl_push]; omega⟩
    · obtain ⟨x, h1, h2⟩ := h
      have a1 := gk_heap_mono h1
      have a2 := gk_run_mono n _ _ _ _ _ _ _ _ h2
      exact ⟨Nat.le_trans a1.1 a2.1, Nat.le_trans a1.2 a2.2⟩
    · obtain ⟨r, -, rfl⟩ := h
      exact ⟨Nat.le_refl _, Nat.le_refl _⟩
    · obtain ⟨d', mj, as, r, -, -, -, ⟨v, w1, h1, h2⟩ | ⟨ci, hp, w1, h1, -, h2⟩⟩ := h
      · have a1 := gk_run_mono n _ _ _ _ _ _ _ _ h1
        have a2 := gk_run_mono n _ _ _ _ _ _ _ _ h2
        exact ⟨Nat.le_trans a1.1 a2.1, Nat.le_trans a1.2 a2.2⟩
      · have a1 := gk_run_mono n _ _ _ _ _ _ _ _ h1
        have a2 := gk_run_mono n _ _ _ _ _ _ _ _ h2
        exact ⟨Nat.le_trans a1.1 a2.1, Nat.le_trans a1.2 a2.2⟩
end
section
/-! part 7: the heap instructions are what gk_heap says of them, where the tables are true of the program -/
def gk_TF (P : gk_Pg) (yn : Nat → MethodName) (cl : List vw_C) (LW : List Cond) : Prop := ∀ mi idx ci k : Nat, gk_fld P mi idx = some (ci, k) → ∃ (C : String) (T : u_T) (N : Nat), cl[ci]? = some (C, T, N) ∧ k < N ∧ (Cond.fieldLink (yn mi).cls idx (T k).1 (T k).2.1 (T k).2.2.1 ∈ LW ∨ ∃ host, Cond.fieldLinkNest (yn mi).cls idx (T k).1 (T k).2.1 (T k).2.2.1 host ∈ LW)
def gk_TP (P : gk_Pg) (yn : Nat → MethodName) (cl : List vw_C) (LW : List Cond) : Prop := ∀ mi idx ci k : Nat, gk_pfl P mi idx = some (ci, k) → ∃ (C : String) (T : u_T) (N : Nat), cl[ci]? = some (C, T, N) ∧ k < N ∧ (((T k).2.2.2 = false ∧ (Cond.fieldLink (yn mi).cls idx (T k).1 (T k).2.1 (T k).2.2.1 ∈ LW ∨ ∃ host, Cond.fieldLinkNest (yn mi).cls idx (T k).1 (T k).2.1 (T k).2.2.1 host ∈ LW)) ∨ ((T k).2.2.2 = true ∧ (yn mi).name = "<init>" ∧ (T k).1 = (yn mi).cls ∧ Cond.fieldLink (yn mi).cls idx (T k).1 (T k).2.1 (T k).2.2.1 ∈ LW))
def gk_TN (P : gk_Pg) (yn : Nat → MethodName) (cl : List vw_C) (LW : List Cond) : Prop := ∀ mi idx ci : Nat, gk_nwc P mi idx = some ci → ∃ (C : String) (T : u_T) (N : Nat), cl[ci]? = some (C, T, N) ∧ Cond.classLink (yn mi).cls idx C ∈ LW ∧ Cond.instantiable C N ∈ LW ∧ Cond.initialized C ∈ LW ∧ gk_nsl P ci = N ∧ (∀ j, j < N → defaultValue (gk_fty P ci j) = vp_V (gk_dfl P ci) j) ∧ ∀ ad : Nat → Nat, (gk_dfl P ci).map (gk_v ad) = gk_dfl P ci
def gk_TC (P : gk_Pg) (yn : Nat → MethodName) (LW : List Cond) : Prop := ∀ (mi idx : Nat) (v : Value), gk_cst P mi idx = some v → (∃ x : Int32, v = .int x ∧ Cond.constant (yn mi).cls idx x ∈ LW) ∨ ∃ x : Int64, v = .long x ∧ Cond.constantLong (yn mi).cls idx x ∈ LW
def gk_TX (P : gk_Pg) (yn : Nat → MethodName) (LW : List Cond) : Prop := ∀ mi idx x y z : Nat, (gk_mth P mi idx = some (3, x, y, z) → Cond.methodLink (yn mi).cls idx Lib.objectInit ∈ LW ∧ Cond.instanceMethod Lib.objectInit ∈ LW ∧ Cond.code Lib.objectInit ⟨#[0xb1]⟩ 1 none ∈ LW) ∧
  (gk_mth P mi idx = some (4, x, y, z) → Cond.methodLink (yn mi).cls idx arraycopyName ∈ LW ∧ Cond.native arraycopyName ∈ LW ∧ Cond.static arraycopyName ∈ LW ∧ Cond.initialized "java/lang/System" ∈ LW) ∧
  (gk_mth P mi idx = some (5, x, y, z) → Cond.methodLink (yn mi).cls idx Lib.MathLoose.min_long.x ∈ LW ∧ Cond.static Lib.MathLoose.min_long.x ∈ LW ∧ Cond.initialized "java/lang/Math" ∈ LW ∧ Cond.code Lib.MathLoose.min_long.x Lib.MathLoose.min_long.code 4 (some .long) ∈ LW)
def gk_TT (P : gk_Pg) (yn : Nat → MethodName) (cl : List vw_C) (LW : List Cond) : Prop := gk_Cl cl LW (gk_fty P) ∧ gk_TF P yn cl LW ∧ gk_TP P yn cl LW ∧ gk_TN P yn cl LW ∧ gk_TC P yn LW ∧ (∀ t, t < 4 → Cond.arrayClass (gk_ty t) ∈ LW) ∧ gk_TX P yn LW
theorem gk_fits_v (ad : Nat → Nat) (ty : FieldType) (v : Value) : fits ty (gk_v ad v) = fits ty v := by cases v <;> cases ty <;> rfl
theorem gk_cat_v (ad : Nat → Nat) (st : List Value) : ((gk_vs ad st).map fun v => v.category).sum = gk_cat st := by
  unfold gk_vs gk_cat
  rw [List.map_map]
  congr 1
  apply List.map_congr_left
  intro v _
  exact gk_v_cat ad v
section GK7
variable {p : Program} {l : Launch} {e : Env} {R : Room} {s : State} {m : MethodId} {args : Array Value} {below : List Frame} {meth : Method} {c : Code} {H : Heap} {locs : List Loc} {cells slots : Nat} {Q : State → Prop}
variable {cc : ByteArray} {pc : Nat} {ls : Array Slot} {D : va_G} {cl : List vw_C} {cA : Nat → ClassId} {b sz : Nat} {w : gk_Wd} {LW : List Cond} {P : gk_Pg} {yn : Nat → MethodName} {mi : Nat} {scr : Option (List Int32)}
set_option maxHeartbeats 4000000 in
theorem gk_heap_ok (hT : gk_TT P yn cl LW) (hx : p.tables.exec = Jvm.exec) (hb : c.code = cc) (hml : c.maxLocals = ls.size) (hK : gk_K D cl cA LW s) (hown : s.vm.findClass (yn mi).cls = some m.cls) (hnm : meth.name = (yn mi).name) (hX : ∀ xs, scr = some xs → va_X b xs.length (fun j => xs.getD j 0) s s.heap) (hbz : b < sz)
    (hI : gk_I D cl cA b sz s w H locs cells) (hfr : 1 ≤ R.frames) (hlo : 40 ≤ R.locals) {i : Instr} {len : Nat} (hd : decode cc pc = .ok (i, len)) (hlen : gk_len i = 0 ∨ len = gk_len i) {st st' : List Value} {w' : gk_Wd} (h : gk_heap P scr mi w st i = some (st', w'))
    (hmc : cells + w'.length ≤ R.cells + w.length) (hms : slots + gk_sl (gk_nsl P) w' ≤ R.slots + gk_sl (gk_nsl P) w)
    (kk : ∀ (H1 : Heap) (locs1 : List Loc) (cells1 slots1 : Nat), cells1 + w.length = cells + w'.length → slots1 + gk_sl (gk_nsl P) w = slots + gk_sl (gk_nsl P) w' → gk_I D cl cA b sz s w' H1 locs1 cells1 → W p l e R s m args below meth c H1 locs1 cells1 slots1 Q (F0 m (pc + gk_len i) ls (gk_vs (gk_ad b sz) st'))) :
    W p l e R s m args below meth c H locs cells slots Q (F0 m pc ls (gk_vs (gk_ad b sz) st)) := by
  obtain ⟨hC, hTF, hTP, hTN, hTC, hTA, hTX⟩ := hT
  have hbA : ¬ (fun q => sz ≤ q) b := fun z => absurd hbz (Nat.not_lt.mpr z)
  have hbs : b < s.heap.size := Nat.lt_of_lt_of_le hbz hI.2.2.2.2
  cases i with
  | getfield k =>
    obtain rfl : len = 3 := by simpa [gk_len] using hlen
    obtain ⟨ci, k, a, r, fs, v, ho, rfl, hw, hv, hq⟩ := gk_hget_inv h
    cases hq
    obtain ⟨C, T, N, hc, hk, hl⟩ := hTF mi _ ci k ho
    exact gk_getf (rest := gk_vs (gk_ad b sz) r) hx hb hK hC hown hI hw hc hk hl hv hd (kk H locs cells slots rfl rfl hI)
  | putfield k =>
    obtain rfl : len = 3 := by simpa [gk_len] using hlen
    obtain ⟨ci, k, a, r, fs, v, ho, rfl, hw, hk1, hf, hq⟩ := gk_hput_inv h
    cases hq
    obtain ⟨C, T, N, hc, hk, hl⟩ := hTP mi _ ci k ho
    exact gk_putf (rest := gk_vs (gk_ad b sz) st') (v := v) hx hb hK hC hown hI hw hc hk (hl.imp (fun z => z) (fun z => ⟨z.1, hnm.trans z.2.1, z.2.2.1, z.2.2.2⟩)) hk1 (by rw [gk_fits_v]; exact hf) hd (fun H1 locs1 hI1 => kk H1 locs1 cells slots (by simp) (by rw [gk_sl_set (c1 := .inl (ci, fs.set k v)) hw rfl]) hI1)
  | iaload =>
    obtain rfl : len = 1 := by simpa [gk_len] using hlen
    rcases gk_hald_inv h with ⟨i, r, xs, hsc, -, rfl, hi, hq⟩ | ⟨i, a, r, xs, rfl, hw, hi, hq⟩
    · cases hq
      exact va_sld (A := fun q => sz ≤ q) (rest := gk_vs (gk_ad b sz) r) hx hb (hX xs hsc) hbs hbA hI.2.1 hi hd (kk H locs cells slots rfl rfl hI)
    · cases hq
      exact gk_iald (rest := gk_vs (gk_ad b sz) r) hx hb hK hI hw hi hd (kk H locs cells slots rfl rfl hI)
  | caload =>
    obtain rfl : len = 1 := by simpa [gk_len] using hlen
    rcases gk_hald_inv h with ⟨i, r, xs, -, h0, -⟩ | ⟨i, a, r, xs, rfl, hw, hi, hq⟩
    · cases h0
    · cases hq
      exact gk_cald (rest := gk_vs (gk_ad b sz) r) hx hb hK hI hw hi hd (kk H locs cells slots rfl rfl hI)
  | baload =>
    obtain rfl : len = 1 := by simpa [gk_len] using hlen
    rcases gk_hald_inv h with ⟨i, r, xs, -, h0, -⟩ | ⟨i, a, r, xs, rfl, hw, hi, hq⟩
    · cases h0
    · cases hq
      exact gk_zald (rest := gk_vs (gk_ad b sz) r) hx hb hK hI hw hi hd (kk H locs cells slots rfl rfl hI)
  | laload =>
    obtain rfl : len = 1 := by simpa [gk_len] using hlen
    obtain ⟨i, a, r, xs, rfl, hw, hi, hq⟩ := gk_hlld_inv h
    cases hq
    exact gk_lald (rest := gk_vs (gk_ad b sz) r) hx hb hK hI hw hi hd (kk H locs cells slots rfl rfl hI)
  | iastore =>
    obtain rfl : len = 1 := by simpa [gk_len] using hlen
    obtain ⟨x, i, a, r, xs, rfl, hw, hi, hf, hq⟩ := gk_hast_inv h
    cases hq
    exact gk_iast (rest := gk_vs (gk_ad b sz) st') hx hb hK hI hw hi hd (fun H1 locs1 hI1 => kk H1 locs1 cells slots (by simp) (by rw [gk_sl_set hw (by simp [gk_cs])]) hI1)
  | castore =>
    obtain rfl : len = 1 := by simpa [gk_len] using hlen
    obtain ⟨x, i, a, r, xs, rfl, hw, hi, hf, hq⟩ := gk_hast_inv h
    cases hq
    exact gk_cast (rest := gk_vs (gk_ad b sz) st') hx hb hK hI hw hi hf hd (fun H1 locs1 hI1 => kk H1 locs1 cells slots (by simp) (by rw [gk_sl_set hw (by simp [gk_cs])]) hI1)
  | bastore =>
    obtain rfl : len = 1 := by simpa [gk_len] using hlen
    obtain ⟨x, i, a, r, xs, rfl, hw, hi, hf, hq⟩ := gk_hast_inv h
    cases hq
    exact gk_zast (rest := gk_vs (gk_ad b sz) st') hx hb hK hI hw hi hf hd (fun H1 locs1 hI1 => kk H1 locs1 cells slots (by simp) (by rw [gk_sl_set hw (by simp [gk_cs])]) hI1)
  | lastore =>
    obtain rfl : len = 1 := by simpa [gk_len] using hlen
    obtain ⟨x, i, a, r, xs, rfl, hw, hi, hq⟩ := gk_hlst_inv h
    cases hq
    exact gk_last (rest := gk_vs (gk_ad b sz) st') hx hb hK hI hw hi hd (fun H1 locs1 hI1 => kk H1 locs1 cells slots (by simp) (by rw [gk_sl_set hw (by simp [gk_cs])]) hI1)
  | arraylength =>
    obtain rfl : len = 1 := by simpa [gk_len] using hlen
    rcases gk_hlen_inv h with ⟨r, xs, hsc, rfl, hq⟩ | ⟨a, t, r, xs, rfl, hw, ht, hq⟩
    · cases hq
      exact va_slen (A := fun q => sz ≤ q) (rest := gk_vs (gk_ad b sz) r) hx hb (hX xs hsc) hbs hbA hI.2.1 hd (kk H locs cells slots rfl rfl hI)
    · cases hq
      exact gk_alen (rest := gk_vs (gk_ad b sz) r) hx hb hK hI ht hw hd (kk H locs cells slots rfl rfl hI)
  | new k =>
    obtain rfl : len = 3 := by simpa [gk_len] using hlen
    obtain ⟨ci, ho, hq⟩ := gk_hnew_inv h
    cases hq
    obtain ⟨C, T, N, hc, h1, h2, h3, h4, h5, h6⟩ := hTN mi _ ci ho
    have e1 : gk_sl (gk_nsl P) (w ++ [.inl (ci, gk_dfl P ci)]) = gk_sl (gk_nsl P) w + N := by rw [gk_sl_push]; simp [gk_cs, h4]
    rw [e1] at hms
    rw [List.length_append, List.length_singleton] at hmc
    exact gk_newc hx hb hK hC hown hI hc h1 h2 h3 h5 (h6 _) (by omega) (by omega) hd (fun H1 hI1 => kk H1 locs (cells + 1) (slots + N) (by rw [List.length_append, List.length_singleton]; omega) (by rw [e1]; omega) hI1)
  | newarray ty =>
    obtain rfl : len = 2 := by simpa [gk_len] using hlen
    obtain ⟨n, r, rfl, hn, hN, ⟨t, ht, hty, hq⟩ | ⟨hty, hq⟩⟩ := gk_harr_inv h
    · cases hq
      have e1 : gk_sl (gk_nsl P) (w ++ [.inr (.inl (t, List.replicate n.toNatClampNeg 0))]) = gk_sl (gk_nsl P) w + n.toNatClampNeg := by rw [gk_sl_push]; simp [gk_cs]
      rw [e1] at hms
      rw [List.length_append, List.length_singleton] at hmc
      exact gk_newi (rest := gk_vs (gk_ad b sz) r) hx hb hK hI hty ht (hTA t (by omega)) hn rfl hN (by omega) (by omega) hd (fun H1 hI1 => kk H1 locs (cells + 1) (slots + n.toNatClampNeg) (by rw [List.length_append, List.length_singleton]; omega) (by rw [e1]; omega) hI1)
    · cases hq
      have e1 : gk_sl (gk_nsl P) (w ++ [.inr (.inr (List.replicate n.toNatClampNeg 0))]) = gk_sl (gk_nsl P) w + n.toNatClampNeg := by rw [gk_sl_push]; simp [gk_cs]
      rw [e1] at hms
      rw [List.length_append, List.length_singleton] at hmc
      exact gk_newl (rest := gk_vs (gk_ad b sz) r) hx hb hK hI hty (hTA 3 (by decide)) hn rfl hN (by omega) (by omega) hd (fun H1 hI1 => kk H1 locs (cells + 1) (slots + n.toNatClampNeg) (by rw [List.length_append, List.length_singleton]; omega) (by rw [e1]; omega) hI1)
  | ldc k =>
    obtain rfl : len = 2 := by simpa [gk_len] using hlen
    obtain ⟨x, ho, hq⟩ := gk_hldi_inv h
    cases hq
    rcases hTC mi _ _ ho with ⟨y, hy, hm⟩ | ⟨y, hy, hm⟩
    · cases hy
      exact lv_ldc hx hb hown (hK.2 _ hm args) hd (kk H locs cells slots rfl rfl hI)
    · cases hy
  | ldc_w k =>
    obtain rfl : len = 3 := by simpa [gk_len] using hlen
    obtain ⟨x, ho, hq⟩ := gk_hldi_inv h
    cases hq
    rcases hTC mi _ _ ho with ⟨y, hy, hm⟩ | ⟨y, hy, hm⟩
    · cases hy
      exact lv_ldcw hx hb hown (hK.2 _ hm args) hd (kk H locs cells slots rfl rfl hI)
    · cases hy
  | ldc2_w k =>
    obtain rfl : len = 3 := by simpa [gk_len] using hlen
    obtain ⟨x, ho, hq⟩ := gk_hldl_inv h
    cases hq
    rcases hTC mi _ _ ho with ⟨y, hy, hm⟩ | ⟨y, hy, hm⟩
    · cases hy
    · cases hy
      exact lv_ldc2 hx hb hown (hK.2 _ hm args) hd (kk H locs cells slots rfl rfl hI)
  | invokespecial k =>
    obtain rfl : len = 3 := by simpa [gk_len] using hlen
    obtain ⟨⟨x, y, z, hm⟩, h⟩ := gk_spec_inv h
    obtain ⟨a, r, rfl, hr, hq⟩ := gk_hobj_inv h
    cases hq
    obtain ⟨h1, h2, h3⟩ := (hTX mi _ x y z).1 hm
    have hr' := hr
    rw [← gk_cat_v (gk_ad b sz)] at hr'
    exact W.objInit (a := gk_ad b sz a) (rest := gk_vs (gk_ad b sz) st') hx hb hown (hK.2 _ h1 args) (hK.2 _ h2 args) (hK.2 _ h3 args) rfl hml.symm rfl hd hfr (by show 2 * 0 + _ + 12 ≤ _; omega) (kk H locs cells slots rfl rfl hI)
  | invokestatic k =>
    obtain rfl : len = 3 := by simpa [gk_len] using hlen
    rcases gk_stat_inv h with ⟨⟨x, y, z, hm⟩, h⟩ | ⟨⟨x, y, z, hm⟩, h⟩
    · obtain ⟨n, dp, sp, a1, a0, r, f, g, rfl, h0, h1, ⟨c1, c2, c3, c4, c5, c6⟩, hq⟩ := gk_hcpy_inv h
      cases hq
      obtain ⟨g1, g2, g3, g4⟩ := (hTX mi _ x y z).2.1 hm
      have hr' := c6
      rw [← gk_cat_v (gk_ad b sz)] at hr'
      exact gk_copy (rest := gk_vs (gk_ad b sz) st') hx hb hml hK hown hI g1 g2 g3 g4 h0 h1 c1 c2 c3 c4 c5 hfr (by omega) hd (fun H1 locs1 hI1 => kk H1 locs1 cells slots (by simp) (by rw [gk_sl_set h1 (by simp only [gk_cs]; exact gk_cpy_len f g _ _ _ c4 c5)]) hI1)
    · obtain ⟨x, y, r, rfl, hr, hq⟩ := gk_hmin_inv h
      cases hq
      obtain ⟨g1, g2, g3, g4⟩ := (hTX mi _ _ _ _).2.2 hm
      have hr' := hr
      rw [← gk_cat_v (gk_ad b sz)] at hr'
      exact va_mmin_long (x := x) (y := y) (rest := gk_vs (gk_ad b sz) r) hx hb hml hown (hK.2 _ g1 args) (hK.2 _ g2 args) (hK.2 _ g3 args) (hK.2 _ g4 args) hfr (by omega) (by omega) (by omega) hd (kk H locs cells slots rfl rfl hI)
  | _ => cases h
end GK7
end
section
/-! part 8: returns, and a call of a method that the interpreter runs -/
def gk_Cw (LW : List Cond) (y : MethodName) (bytes : ByteArray) (maxL : Nat) (ret : Option FieldType) (hh : List (Nat × Nat × Nat × Nat)) : Prop := (hh = [] ∧ Cond.code y bytes maxL ret ∈ LW) ∨ Cond.codeWith y bytes maxL ret hh ∈ LW
theorem gk_code_at {LW : List Cond} {s : State} (hw : ∀ w ∈ LW, ∀ a : Array Value, w.before a s = true) {y : MethodName} {bytes : ByteArray} {maxL : Nat} {ret : Option FieldType} {hh : List (Nat × Nat × Nat × Nat)} (h : gk_Cw LW y bytes maxL ret hh) :
    ∃ (mk : MethodId) (methM : Method) (cM : Code), s.methodNamed? y = some mk ∧ s.vm.method? mk = some methM ∧ methM.code = some cM ∧ cM.code = bytes ∧ cM.maxLocals = maxL ∧ methM.sig.returnType = ret ∧ methM.locks = false ∧ cM.exceptionTable.toList.map (fun h => (h.startPc, h.endPc, h.handlerPc, h.catchType)) = hh ∧ parseMethodDescriptor y.desc = some methM.sig := by
  rcases h with ⟨rfl, h⟩ | h
  · have hc := hw _ h #[]
    obtain ⟨mk, hn⟩ := Cond.code_named hc
    obtain ⟨meth, c, h1, h2, h3, h4, h5, h6, h7, h8⟩ := Cond.code_spec hn hc
    refine ⟨mk, meth, c, hn, h1, h2, h3, h4, h5, h6, ?_, h8⟩
    have h0 : c.exceptionTable.size = 0 := by simpa [Array.isEmpty] using h7
    have h9 : c.exceptionTable.toList = [] := List.eq_nil_of_length_eq_zero (by simpa using h0)
    rw [h9]; rfl
  · obtain ⟨mk, meth, c, h0, h1, h2, h3, h4, h5, h6, h7, h8⟩ := Cond.codeWith_spec (hw _ h #[])
    exact ⟨mk, meth, c, h0, h1, h2, h3, h4, h6, h7, h5, h8⟩
/-- a word that stays true under warmer tables -/
def gk_stab (w : Cond) : Prop := (w.onTables && w.keeps) = true ∨ (∃ ty, w = .arrayClass ty) ∨ (∃ a i x n d h, w = .fieldLinkNest a i x n d h) ∨ ∃ a i x h, w = .methodLinkNest a i x h
theorem gk_stab_warm {w : Cond} {s U : State} (hs : gk_stab w) (hW : s.WarmedH U.vm) (h : ∀ a : Array Value, w.before a s = true) : ∀ a : Array Value, w.before a U = true := by
  intro a
  rcases hs with h1 | ⟨ty, rfl⟩ | ⟨x1, x2, x3, x4, x5, x6, rfl⟩ | ⟨x1, x2, x3, x4, rfl⟩
  · exact word_at hW (Or.inl h1) (h #[])
  · exact word_at hW (Or.inr ⟨ty, rfl⟩) (h #[])
  · exact va_Nw.use rfl (va_Nw.warmF hW (h #[]))
  · exact va_Nw.use rfl (va_Nw.warmM hW (h #[]))
theorem gk_K_warm {D : va_G} {cl : List vw_C} {cA : Nat → ClassId} {LW : List Cond} {s U : State} (hL : ∀ w ∈ LW, gk_stab w) (hW : s.WarmedH U.vm) (h : gk_K D cl cA LW s) : gk_K D cl cA LW U :=
  ⟨va_K.moved hW.alike h.1, fun w hw => gk_stab_warm (hL w hw) hW (h.2 w hw)⟩
/-- which method a walk is in -/
def gk_M (P : gk_Pg) (yn : Nat → MethodName) (code : Nat → ByteArray) (hh : Nat → List (Nat × Nat × Nat × Nat)) (mi : Nat) (s : State) (m : MethodId) (meth : Method) (c : Code) : Prop :=
  c.code = code mi ∧ c.maxLocals = (gk_inf P mi).1 ∧ meth.sig.returnType = (gk_inf P mi).2 ∧ meth.locks = false ∧ s.vm.findClass (yn mi).cls = some m.cls ∧ meth.name = (yn mi).name ∧ c.exceptionTable.toList.map (fun h => (h.startPc, h.endPc, h.handlerPc, h.catchType)) = hh mi
/-- how a walk ends: its outcome, the world behind it -/
def gk_Q (D : va_G) (cl : List vw_C) (cA : Nat → ClassId) (b sz : Nat) (below : List Frame) (s : State) (q : gk_Res × gk_Wd) (mc ms : Nat) : State → Prop := fun t =>
  ∃ (o : Outcome) (L : List Loc), t.status = .running ∧ Ended t below o ∧ (match q.1 with
    | .inl v => o = .returned (v.map (gk_v (gk_ad b sz)))
    | .inr _ => o = .threw (gk_ad b sz q.2.length)) ∧ s.WarmedH t.vm ∧ s.sameButNew ({ t with vm := s.vm } : State) L mc ms ∧ gk_I D cl cA b sz s q.2 t.heap L mc
section GK8
variable {p : Program} {l : Launch} {e : Env} {R : Room} {s : State} {m : MethodId} {args : Array Value} {below : List Frame} {meth : Method} {c : Code} {H : Heap} {locs : List Loc} {cells slots : Nat}
variable {cc : ByteArray} {pc : Nat} {ls : Array Slot} {D : va_G} {cl : List vw_C} {cA : Nat → ClassId} {b sz : Nat} {w : gk_Wd}
theorem gk_ret_i (hx : p.tables.exec = Jvm.exec) (hb : c.code = cc) {ty : FieldType} (hr : meth.sig.returnType = some ty) (hlocks : meth.locks = false) {x : Int32} (hf : fits ty (.int x) = true) (hI : gk_I D cl cA b sz s w H locs cells) (hd : decode cc pc = .ok (.ireturn, 1)) :
    W p l e R s m args below meth c H locs cells slots (gk_Q D cl cA b sz below s (.inl (some (.int x)), w) cells slots) (F0 m pc ls [.int x]) := by
  have hn := narrow_of_fits hf
  intro T hT X
  obtain ⟨fs, hret, hrun, hended, hW, hframe⟩ := X.leave (v := some (.int x)) (hlocks := hlocks) (fun h => by rw [hr] at h; cases h)
  have hmeth' : T.vm.method? m = some meth := X.method'
  refine ⟨T.setFrames fs, ?_, .returned (some (.int x)), locs, hrun, hended, rfl, hW, hframe, ?_⟩
  · jvm_step X.here [X.here.top, hx, hb, hd, hmeth', hr, hn]
    (try refine ⟨rfl, ?_⟩); (try refine ⟨rfl, ?_⟩)
    first | (intro acts; rw [hret _ acts rfl rfl rfl]) | rw [hret _ _ rfl rfl rfl]
    exact Steps.refl _
  · show gk_I D cl cA b sz s w T.heap locs cells
    rw [hT]; exact hI
theorem gk_ret_l (hx : p.tables.exec = Jvm.exec) (hb : c.code = cc) (hr : meth.sig.returnType = some .long) (hlocks : meth.locks = false) {x : Int64} (hI : gk_I D cl cA b sz s w H locs cells) (hd : decode cc pc = .ok (.lreturn, 1)) :
    W p l e R s m args below meth c H locs cells slots (gk_Q D cl cA b sz below s (.inl (some (.long x)), w) cells slots) (F0 m pc ls [.long x]) := by
  intro T hT X
  obtain ⟨fs, hret, hrun, hended, hW, hframe⟩ := X.leave (v := some (.long x)) (hlocks := hlocks) (fun h => by rw [hr] at h; cases h)
  have hmeth' : T.vm.method? m = some meth := X.method'
  refine ⟨T.setFrames fs, ?_, .returned (some (.long x)), locs, hrun, hended, rfl, hW, hframe, ?_⟩
  · jvm_step X.here [X.here.top, hx, hb, hd, hmeth', hr, narrow]
    (try refine ⟨rfl, ?_⟩); (try refine ⟨rfl, ?_⟩)
    first | (intro acts; rw [hret _ acts rfl rfl rfl]) | rw [hret _ _ rfl rfl rfl]
    exact Steps.refl _
  · show gk_I D cl cA b sz s w T.heap locs cells
    rw [hT]; exact hI
theorem gk_ret_v (hx : p.tables.exec = Jvm.exec) (hb : c.code = cc) (hr : meth.sig.returnType = none) (hlocks : meth.locks = false) (hI : gk_I D cl cA b sz s w H locs cells) (hd : decode cc pc = .ok (.return_, 1)) :
    W p l e R s m args below meth c H locs cells slots (gk_Q D cl cA b sz below s (.inl none, w) cells slots) (F0 m pc ls []) := by
  intro T hT X
  obtain ⟨fs, hret, hrun, hended, hW, hframe⟩ := X.leave (v := none) (hlocks := hlocks) (fun _ => rfl)
  have hmeth' : T.vm.method? m = some meth := X.method'
  refine ⟨T.setFrames fs, ?_, .returned none, locs, hrun, hended, rfl, hW, hframe, ?_⟩
  · jvm_step X.here [X.here.top, hx, hb, hd, hmeth', hr]
    (try refine ⟨rfl, ?_⟩); (try refine ⟨rfl, ?_⟩)
    first | (intro acts; rw [hret _ acts rfl rfl rfl]) | rw [hret _ _ rfl rfl rfl]
    exact Steps.refl _
  · show gk_I D cl cA b sz s w T.heap locs cells
    rw [hT]; exact hI
theorem gk_ret_ok (hx : p.tables.exec = Jvm.exec) (hb : c.code = cc) {rt : Option FieldType} (hr : meth.sig.returnType = rt) (hlocks : meth.locks = false) (hI : gk_I D cl cA b sz s w H locs cells) {i : Instr} {len : Nat} (hd : decode cc pc = .ok (i, len)) (hlen : gk_len i = 0 ∨ len = gk_len i) {st : List Value} {r : Option Value} (h : gk_ret rt st i = some r) :
    W p l e R s m args below meth c H locs cells slots (gk_Q D cl cA b sz below s (.inl r, w) cells slots) (F0 m pc ls (gk_vs (gk_ad b sz) st)) := by
  cases i with
  | return_ =>
    obtain rfl : len = 1 := by simpa [gk_len] using hlen
    simp only [gk_ret] at h
    split at h
    · cases h
      exact gk_ret_v hx hb hr hlocks hI hd
    · cases h
  | ireturn =>
    obtain rfl : len = 1 := by simpa [gk_len] using hlen
    simp only [gk_ret] at h
    split at h
    · split at h
      · rename_i hf
        cases h
        exact gk_ret_i hx hb hr hlocks hf hI hd
      · cases h
    · cases h
  | lreturn =>
    obtain rfl : len = 1 := by simpa [gk_len] using hlen
    simp only [gk_ret] at h
    split at h
    · cases h
      exact gk_ret_l hx hb hr hlocks hI hd
    · cases h
  | _ => cases h
end GK8
/-! entry: the arguments become the locals -/
theorem gk_slots_v (ad : Nat → Nat) : ∀ as : List Value, lg_sl (gk_vs ad as) = (as.flatMap gk_slots).map (fun o => match o with
    | some v => Slot.val (gk_v ad v)
    | none => Slot.second)
  | [] => rfl
  | v :: r => by
    have ih := gk_slots_v ad r
    unfold lg_sl at ih ⊢
    rw [gk_vs_cons, List.flatMap_cons, List.flatMap_cons, List.map_append, ih, gk_v_cat]
    congr 1
    unfold gk_slots
    split <;> rfl
theorem gk_entry_L (ad : Nat → Nat) (as : List Value) (n : Nat) (h : (as.flatMap gk_slots).length ≤ n) : gk_L ad ((lg_sl (gk_vs ad as) ++ List.replicate (n - (lg_sl (gk_vs ad as)).length) Slot.unset).toArray) (gk_entry as n) ∧ (gk_entry as n).length = n := by
  have hl : (lg_sl (gk_vs ad as)).length = (as.flatMap gk_slots).length := by rw [gk_slots_v, List.length_map]
  have hn : (gk_entry as n).length = n := by
    unfold gk_entry
    rw [List.length_append, List.length_replicate]
    omega
  have he := lv_entry (gk_vs ad as) (n := n) (by rw [hl]; exact h)
  refine ⟨⟨by rw [hn]; exact he.1, he.2.1, fun i v hi => ?_⟩, hn⟩
  unfold gk_entry at hi
  rw [List.getElem?_toArray]
  by_cases hlt : i < (as.flatMap gk_slots).length
  · rw [List.getElem?_append_left hlt] at hi
    rw [List.getElem?_append_left (by omega), gk_slots_v, List.getElem?_map, hi]
    rfl
  · rw [List.getElem?_append_right (by omega), List.getElem?_replicate] at hi
    split at hi <;> cases hi
theorem gk_weaken {tb : Tables} {e : Env} {g : Frame} {below : List Frame} {x y : State} (h : Steps tb e (g :: below) x y) : Steps tb e below x y := by
  obtain ⟨n, hn, hw⟩ := h
  exact ⟨n, hn, fun k hk => Within.weaken (mid := [g]) (hw k hk)⟩
/-- the interpreter of n steps is right of every method -/
def gk_Snd (p : Program) (l : Launch) (e : Env) (P : gk_Pg) (yn : Nat → MethodName) (code : Nat → ByteArray) (hh : Nat → List (Nat × Nat × Nat × Nat)) (D : va_G) (cl : List vw_C) (cA : Nat → ClassId) (b sz : Nat) (LW : List Cond) (J : State → Prop) (n : Nat) : Prop :=
  ∀ (scr : Option (List Int32)) (d mi pc : Nat) (lc : gk_Lc) (st : List Value) (w : gk_Wd) (q : gk_Res × gk_Wd), gk_run P n scr d mi pc lc st w = some q →
    ∀ (R : Room) (s : State) (m : MethodId) (args : Array Value) (below : List Frame) (meth : Method) (c : Code) (H : Heap) (locs : List Loc) (cells slots mc ms : Nat) (ls : Array Slot),
      gk_M P yn code hh mi s m meth c → gk_K D cl cA LW s → (∀ xs, scr = some xs → va_X b xs.length (fun j => xs.getD j 0) s s.heap) → J s → gk_I D cl cA b sz s w H locs cells → gk_L (gk_ad b sz) ls lc → lc.length = (gk_inf P mi).1 →
      d + 1 ≤ R.frames → 40 * d + 40 ≤ R.locals → mc ≤ R.cells → ms ≤ R.slots → mc + w.length = cells + q.2.length → ms + gk_sl (gk_nsl P) w = slots + gk_sl (gk_nsl P) q.2 →
      W p l e R s m args below meth c H locs cells slots (gk_Q D cl cA b sz below s q mc ms) (F0 m pc ls (gk_vs (gk_ad b sz) st))
section GK9
variable {p : Program} {l : Launch} {e : Env} {R : Room} {s : State} {m : MethodId} {args : Array Value} {below : List Frame} {meth : Method} {c : Code} {T : State} {locs : List Loc} {cells slots : Nat}
variable {D : va_G} {cl : List vw_C} {cA : Nat → ClassId} {b sz : Nat} {w : gk_Wd} {P : gk_Pg} {yn : Nat → MethodName} {code : Nat → ByteArray} {hh : Nat → List (Nat × Nat × Nat × Nat)} {LW : List Cond} {J : State → Prop}
/-- what holds behind the callee, said of the caller -/
theorem gk_I_back {s' : State} {t : State} {L : List Loc} {k : Nat} {w1 : gk_Wd} {H1 : Heap} (hI : gk_I D cl cA b sz s w T.heap locs cells) (hs : s'.heap = T.heap) (hI' : gk_I D cl cA b sz s' w1 t.heap L k) (hH : H1 = t.heap) : gk_I D cl cA b sz s w1 H1 (locs ++ L) (cells + k) := by
  subst hH
  obtain ⟨p1, p2, p3, p4, p5⟩ := hI
  obtain ⟨q1, q2, q3, q4, q5⟩ := hI'
  rw [hs] at q2 q4 q5
  refine ⟨q1, ⟨Nat.le_trans p2.1 q2.1, fun q h1 h2 => ?_, fun x hx => ?_⟩, q3, by omega, p5⟩
  · rw [q2.2.1 q (Nat.lt_of_lt_of_le h1 p2.1) h2]
    exact p2.2.1 q h1 h2
  · rcases List.mem_append.mp hx with h | h
    · exact p2.2.2 x h
    · exact q2.2.2 x h
set_option maxHeartbeats 1000000 in
theorem gk_go {n : Nat} (IH : gk_Snd p l e P yn code hh D cl cA b sz LW J n) (hLW : ∀ w ∈ LW, gk_stab w) (hJ : ∀ s U : State, J s → s.WarmedH U.vm → (∀ q, q < sz → U.heap[q]? = s.heap[q]?) → J U) (X : Stand p l e R s m args below meth c T locs cells slots) (hK : gk_K D cl cA LW s) (hJs : J s)
    (hI : gk_I D cl cA b sz s w T.heap locs cells) {g : JFrame} (hg : g.method = m) (hsize : g.locals.size = c.maxLocals) {ig : Instr} {len : Nat} (hdg : decode c.code g.pc = .ok (ig, len)) (hcat : 2 * g.monitorRoom + (g.stack.map fun v => v.category).sum ≤ 8)
    {mj d : Nat} (hCw : gk_Cw LW (yn mj) (code mj) (gk_inf P mj).1 (gk_inf P mj).2 (hh mj)) (hpl : plainFor (yn mj) = true) (hml : (gk_inf P mj).1 ≤ 21) {mk : MethodId} (hn : s.methodNamed? (yn mj) = some mk)
    {as : List Value} (hfit : (as.flatMap gk_slots).length ≤ (gk_inf P mj).1) {q : gk_Res × gk_Wd} (hrun : gk_run P n none d mj 0 (gk_entry as (gk_inf P mj).1) [] w = some q)
    (hfr : d + 1 + 1 ≤ R.frames) (hlo : 40 * (d + 1) + 40 ≤ R.locals) (hc : cells + q.2.length ≤ R.cells + w.length) (hs : slots + gk_sl (gk_nsl P) q.2 ≤ R.slots + gk_sl (gk_nsl P) w) :
    ∃ (t T' : State) (L : List Loc) (k n' : Nat), (∀ acts, Steps p.tables e below (doInvoke e (T.setTop g) acts mk (gk_vs (gk_ad b sz) as).toArray).1 t) ∧ Stand p l e R s m args below meth c T' (locs ++ L) (cells + k) (slots + n') ∧ gk_I D cl cA b sz s q.2 T'.heap (locs ++ L) (cells + k) ∧ k + w.length = q.2.length ∧ n' + gk_sl (gk_nsl P) w = gk_sl (gk_nsl P) q.2 ∧
      (match q.1 with
        | .inl v => t = T'.setTop { g with pc := g.pc + len, stack := (v.map (gk_v (gk_ad b sz))).toList ++ g.stack }
        | .inr _ => t = (T'.setTop g).pushFrame (.throwing (gk_ad b sz q.2.length))) := by
  have hmono := gk_run_mono n none d mj 0 _ _ _ _ hrun
  obtain ⟨k, hk⟩ : ∃ k, k + w.length = q.2.length := ⟨q.2.length - w.length, by omega⟩
  obtain ⟨n', hn'⟩ : ∃ n', n' + gk_sl (gk_nsl P) w = gk_sl (gk_nsl P) q.2 := ⟨gk_sl (gk_nsl P) q.2 - gk_sl (gk_nsl P) w, by omega⟩
  obtain ⟨mk', methk, ck, hn2, hmk, hck, hby, hmx, hrt, hlk, hex, -⟩ := gk_code_at hK.2 hCw
  cases hn.symm.trans hn2
  have hnT : T.methodNamed? (yn mj) = some mk := X.named hn
  have hmT : T.vm.method? mk = some methk := by rw [X.warmed.alike.method?]; exact hmk
  obtain ⟨Y, hin⟩ := X.into hg hsize hdg (gk_vs (gk_ad b sz) as).toArray (R' := { frames := d + 1, cells := k, slots := n', locals := 40 * d + 40 }) hmT hck hlk (State.plainMethod.of_named hpl hnT hmT) (by show d + 1 + 1 ≤ _; omega) (by show _ + (40 * d + 40) ≤ _; rw [hmx]; omega) (by show cells + k ≤ _; omega) (by show slots + n' ≤ _; omega)
  have hUh : ((T.setTop g).pushFrame (.java (entryFrame mk (gk_vs (gk_ad b sz) as).toArray ck.maxLocals))).heap = T.heap := rfl
  generalize (T.setTop g).pushFrame (.java (entryFrame mk (gk_vs (gk_ad b sz) as).toArray ck.maxLocals)) = U at Y hin hUh
  have hsv : (T.calling g mk (gk_vs (gk_ad b sz) as).toArray).vm = T.vm := rfl
  have hsh : (T.calling g mk (gk_vs (gk_ad b sz) as).toArray).heap = T.heap := rfl
  generalize hs' : T.calling g mk (gk_vs (gk_ad b sz) as).toArray = s' at Y hsv hsh
  have hWs : s.WarmedH s'.vm := by rw [hsv]; exact X.warmed
  have hnS : s'.methodNamed? (yn mj) = some mk := by rw [← hs']; exact hnT
  have hJ' : J s' := hJ s s' hJs hWs (fun q hq => by rw [hsh]; exact hI.2.1.2.1 q (Nat.lt_of_lt_of_le hq hI.2.2.2.2) (fun z => absurd hq (Nat.not_lt.mpr z)))
  have hI' : gk_I D cl cA b sz s' w T.heap [] 0 := ⟨hI.1, by rw [hsh]; exact va_S.rf, hI.2.2.1, by rw [hsh, hI.2.2.1]; rfl, by rw [hsh]; exact Nat.le_trans hI.2.2.2.2 hI.2.1.1⟩
  obtain ⟨hL, hLn⟩ := gk_entry_L (gk_ad b sz) as (gk_inf P mj).1 hfit
  have hmS : s'.vm.method? mk = some methk := by rw [hsv]; exact hmT
  have hM : gk_M P yn code hh mj s' mk methk ck := ⟨hby, hmx, hrt, hlk, findClass_of_methodNamed hnS, (name_of_methodNamed hnS hmS).1, hex⟩
  obtain ⟨t, hst, o, L, hrun', hend, ho, hW, hsame, hIt⟩ := IH none d mj 0 (gk_entry as (gk_inf P mj).1) [] w q hrun { frames := d + 1, cells := k, slots := n', locals := 40 * d + 40 } s' mk (gk_vs (gk_ad b sz) as).toArray (.java g :: below) methk ck T.heap [] 0 0 k n' _ hM (gk_K_warm hLW hWs hK) (fun _ z => by cases z) hJ' hI' hL hLn (Nat.le_refl _) (Nat.le_refl _) (Nat.le_refl _) (Nat.le_refl _) (by omega) (by omega) U hUh Y
  have hst2 : ∀ acts, Steps p.tables e below (doInvoke e (T.setTop g) acts mk (gk_vs (gk_ad b sz) as).toArray).1 t := by
    intro acts
    rw [hin acts]
    refine gk_weaken (g := .java g) ?_
    rw [hmx, lg_entry_eq]
    exact hst
  subst hs'
  obtain ⟨res, w1⟩ := q
  cases res with
  | inl v =>
    have ho' : o = .returned (v.map (gk_v (gk_ad b sz))) := ho
    subst ho'
    obtain ⟨T', X', -, -, ht⟩ := X.outOf hg hdg hend hW hsame
    refine ⟨t, T', L, k, n', hst2, X', gk_I_back hI hsh hIt (by rw [ht]; rfl), hk, by omega, ht⟩
  | inr ci =>
    have ho' : o = .threw (gk_ad b sz w1.length) := ho
    subst ho'
    obtain ⟨T', X', -, -, ht⟩ := X.outOfThrown hg hend hW hsame
    refine ⟨t, T', L, k, n', hst2, X', gk_I_back hI hsh hIt (by rw [ht]; rfl), hk, by omega, ht⟩
end GK9
end
section
/-! part 9: the interpreter is right (throws and handlers as two premises, gk_Thr and gk_Cat) -/
def gk_TK (P : gk_Pg) (yn : Nat → MethodName) (code : Nat → ByteArray) (hh : Nat → List (Nat × Nat × Nat × Nat)) (cl : List vw_C) (LW : List Cond) : Prop := ∀ mi idx kind mj na ci : Nat, gk_mth P mi idx = some (kind, mj, na, ci) → kind < 3 →
  gk_Cw LW (yn mj) (code mj) (gk_inf P mj).1 (gk_inf P mj).2 (hh mj) ∧ Cond.initialized (yn mj).cls ∈ LW ∧ ((yn mj).cls ≠ "java/lang/invoke/MethodHandle" ∧ (yn mj).cls ≠ "java/lang/invoke/VarHandle") ∧ plainFor (yn mj) = true ∧ (gk_inf P mj).1 ≤ 21 ∧
  (parseMethodDescriptor (yn mj).desc).map (fun d => d.parameters.length) = some na ∧ (Cond.methodLink (yn mi).cls idx (yn mj) ∈ LW ∨ ∃ host, Cond.methodLinkNest (yn mi).cls idx (yn mj) host ∈ LW) ∧ (kind = 0 → Cond.static (yn mj) ∈ LW) ∧
  (kind = 1 → Cond.instanceMethod (yn mj) ∈ LW ∧ ∃ (C : String) (T : u_T) (N : Nat), cl[ci]? = some (C, T, N) ∧ Cond.selects C (yn mj) (yn mj) ∈ LW) ∧ (kind = 2 → (yn mj).name = "<init>" ∧ Cond.instanceMethod (yn mj) ∈ LW ∧ Cond.code (yn mj) (code mj) (gk_inf P mj).1 none ∈ LW)
def gk_TD (P : gk_Pg) (code : Nat → ByteArray) : Prop := ∀ (mi pc : Nat) (i : Instr), gk_dec P mi pc = some i → ∃ len : Nat, decode (code mi) pc = .ok (i, len) ∧ (gk_len i = 0 ∨ len = gk_len i)
theorem gk_vs_app (ad : Nat → Nat) (a b : List Value) : gk_vs ad (a ++ b) = gk_vs ad a ++ gk_vs ad b := List.map_append
theorem gk_vs_rev (ad : Nat → Nat) (a : List Value) : (gk_vs ad a.reverse).reverse = gk_vs ad a := by
  unfold gk_vs
  rw [List.map_reverse, List.reverse_reverse]
theorem gk_vs_cut (ad : Nat → Nat) (st : List Value) (n : Nat) : gk_vs ad st = (gk_vs ad (st.take n).reverse).reverse ++ gk_vs ad (st.drop n) := by
  rw [gk_vs_rev, ← gk_vs_app, List.take_append_drop]
theorem gk_vs_len (ad : Nat → Nat) (st : List Value) : (gk_vs ad st).length = st.length := List.length_map ..
theorem gk_call_inv {P : gk_Pg} {mi : Nat} {w : gk_Wd} {st : List Value} {i : Instr} {mj : Nat} {as r : List Value} (h : gk_call P mi w st i = some (mj, as, r)) : ∃ idx na ci : Nat,
    (i = .invokestatic idx ∧ gk_mth P mi idx = some (0, mj, na, ci) ∧ na ≤ st.length ∧ gk_cat r ≤ 8 ∧ as = (st.take na).reverse ∧ r = st.drop na) ∨
    (i = .invokevirtual idx ∧ gk_mth P mi idx = some (1, mj, na, ci) ∧ gk_cat r ≤ 8 ∧ ∃ (a : Nat) (fs : List Value), st.drop na = .ref (a + 1) :: r ∧ w[a]? = some (.inl (ci, fs)) ∧ as = .ref (a + 1) :: (st.take na).reverse) ∨
    (i = .invokespecial idx ∧ gk_mth P mi idx = some (2, mj, na, ci) ∧ gk_cat r ≤ 8 ∧ ∃ a : Nat, st.drop na = .ref a :: r ∧ as = .ref a :: (st.take na).reverse) := by
  unfold gk_call at h
  split at h
  · rename_i k
    split at h
    · rename_i mj' na ci hm
      split at h
      · rename_i hc
        cases h
        exact ⟨k, na, ci, Or.inl ⟨rfl, hm, hc.1, hc.2, rfl, rfl⟩⟩
      · cases h
    · cases h
  · rename_i k
    split at h
    · rename_i mj' na ci hm
      split at h
      · rename_i a r' hdrop
        split at h
        · rename_i cj fs hw
          split at h
          · rename_i hc
            obtain ⟨rfl, hc⟩ := hc
            cases h
            exact ⟨k, na, _, Or.inr (Or.inl ⟨rfl, hm, hc, a, fs, hdrop, hw, rfl⟩)⟩
          · cases h
        · cases h
      · cases h
    · cases h
  · rename_i k
    split at h
    · rename_i mj' na ci hm
      split at h
      · rename_i a r' hdrop
        split at h
        · rename_i hc
          cases h
          exact ⟨k, na, ci, Or.inr (Or.inr ⟨rfl, hm, hc, a, hdrop, rfl⟩)⟩
        · cases h
      · cases h
    · cases h
  · cases h
theorem gk_drop_len {st : List Value} {na : Nat} {x : Value} {r : List Value} (h : st.drop na = x :: r) : (st.take na).length = na := by
  have h1 := congrArg List.length h
  rw [List.length_drop, List.length_cons] at h1
  rw [List.length_take]
  omega
section GK10
variable {p : Program} {l : Launch} {e : Env} {R : Room} {s : State} {m : MethodId} {args : Array Value} {below : List Frame} {meth : Method} {c : Code} {T : State} {locs : List Loc} {cells slots : Nat}
variable {D : va_G} {cl : List vw_C} {cA : Nat → ClassId} {b sz : Nat} {w : gk_Wd} {P : gk_Pg} {yn : Nat → MethodName} {code : Nat → ByteArray} {hh : Nat → List (Nat × Nat × Nat × Nat)} {LW : List Cond} {mi pc : Nat} {ls : Array Slot}
set_option maxHeartbeats 1000000 in
theorem gk_inv (hTK : gk_TK P yn code hh cl LW) (X : Stand p l e R s m args below meth c T locs cells slots) (hx : p.tables.exec = Jvm.exec) (hK : gk_K D cl cA LW s) (hown : s.vm.findClass (yn mi).cls = some m.cls) (hI : gk_I D cl cA b sz s w T.heap locs cells) {i : Instr} {len : Nat} (hd : decode c.code pc = .ok (i, len)) (hlen : gk_len i = 0 ∨ len = gk_len i)
    {st as r : List Value} {mj : Nat} (h : gk_call P mi w st i = some (mj, as, r)) :
    len = 3 ∧ gk_cat r ≤ 8 ∧ gk_Cw LW (yn mj) (code mj) (gk_inf P mj).1 (gk_inf P mj).2 (hh mj) ∧ plainFor (yn mj) = true ∧ (gk_inf P mj).1 ≤ 21 ∧ ∃ (vm₁ : Vm) (mk : MethodId), s.methodNamed? (yn mj) = some mk ∧ Stand p l e R s m args below meth c (T.setVm vm₁) locs cells slots ∧
      ∀ target, (∀ acts, Steps p.tables e below (doInvoke e ((T.setVm vm₁).setTop (F0 m pc ls (gk_vs (gk_ad b sz) r))) acts mk (gk_vs (gk_ad b sz) as).toArray).1 target) → Steps p.tables e below (T.setTop (F0 m pc ls (gk_vs (gk_ad b sz) st))) target := by
  obtain ⟨idx, na, ci, ⟨rfl, hm, hna, hcat, rfl, rfl⟩ | ⟨rfl, hm, hcat, a, fs, hdrop, hw, rfl⟩ | ⟨rfl, hm, hcat, a, hdrop, rfl⟩⟩ := gk_call_inv h
  · obtain rfl : len = 3 := by simpa [gk_len] using hlen
    obtain ⟨hCw, hini, hmh, hpl, h40, hpar, hlink, hst, -, -⟩ := hTK mi idx 0 mj na ci hm (by decide)
    obtain ⟨mk, methM, cM, hn, hmk, -, -, -, -, -, -, hsig⟩ := gk_code_at hK.2 hCw
    have hlenA : (gk_vs (gk_ad b sz) (st.take na).reverse).length = methM.sig.parameters.length := by
      rw [hsig] at hpar
      rw [gk_vs_len, List.length_reverse, List.length_take, Nat.min_eq_left hna]
      exact (Option.some.inj hpar).symm
    have hstatic : methM.isStatic = true := Cond.static_spec hn hmk (hK.2 _ (hst rfl) args)
    obtain ⟨kP, hkP, -⟩ := className_of_methodNamed hn
    have hinitP : kP.init = .initialized := Cond.initialized_spec (findClass_of_methodNamed hn) hkP (hK.2 _ hini args)
    refine ⟨rfl, hcat, hCw, hpl, h40, ?_⟩
    rcases hlink with hl | ⟨host, hl⟩
    · obtain ⟨vm₁, X₁, hstep⟩ := X.invokestatic hx hown (hK.2 _ hl args) hn hmk hstatic hkP hinitP hmh (g := F0 m pc ls (gk_vs (gk_ad b sz) st)) rfl (argsL := gk_vs (gk_ad b sz) (st.take na).reverse) (rest := gk_vs (gk_ad b sz) (st.drop na)) hlenA (gk_vs_cut _ st na) hd
      exact ⟨vm₁, mk, hn, X₁, hstep⟩
    · obtain ⟨vm₁, X₁, hstep⟩ := X.invokestaticNest hx hown (hK.2 _ hl args) hn hmk hstatic hkP hinitP hmh (g := F0 m pc ls (gk_vs (gk_ad b sz) st)) rfl (argsL := gk_vs (gk_ad b sz) (st.take na).reverse) (rest := gk_vs (gk_ad b sz) (st.drop na)) hlenA (gk_vs_cut _ st na) hd
      exact ⟨vm₁, mk, hn, X₁, hstep⟩
  · obtain rfl : len = 3 := by simpa [gk_len] using hlen
    obtain ⟨hCw, hini, hmh, hpl, h40, hpar, hlink, -, hv, -⟩ := hTK mi idx 1 mj na ci hm (by decide)
    obtain ⟨hinst, C, Tt, N, hc, hsel⟩ := hv rfl
    obtain ⟨mk, methM, cM, hn, hmk, -, -, -, -, -, -, hsig⟩ := gk_code_at hK.2 hCw
    obtain ⟨mk2, methM2, hn2, hmk2, hstM, habM⟩ := Cond.instanceMethod_spec (hK.2 _ hinst args)
    cases hn.symm.trans hn2
    cases hmk.symm.trans hmk2
    have hlenA : (gk_vs (gk_ad b sz) (st.take na).reverse).length = methM.sig.parameters.length := by
      rw [hsig] at hpar
      rw [gk_vs_len, List.length_reverse, gk_drop_len hdrop]
      exact (Option.some.inj hpar).symm
    obtain ⟨cellB, hcB, hoB, hclB⟩ := va_recv hK.1 hI.1 hc (gk_w_at hw)
    obtain ⟨c2, r2, m2, q1, q2, q3, q4, kP, hkP, hkPi⟩ := Cond.selects_spec (hK.2 _ hsel args)
    cases hclB.symm.trans q1
    cases (State.methodFound?_of_named hn hmh).symm.trans q2
    cases hn.symm.trans q3
    have hselP : selectMethod e.platform s.vm cellB.cls mk = .method mk := by rw [Launch.admits_selectMethod X.admits]; exact q4
    have hstk : gk_vs (gk_ad b sz) st = (gk_vs (gk_ad b sz) (st.take na).reverse).reverse ++ .ref (sz + a) :: gk_vs (gk_ad b sz) r := by
      rw [gk_vs_cut (gk_ad b sz) st na, hdrop]; rfl
    refine ⟨rfl, hcat, hCw, hpl, h40, ?_⟩
    rcases hlink with hl | ⟨host, hl⟩
    · obtain ⟨vm₁, X₁, hstep⟩ := X.invokevirtual hx hown (hK.2 _ hl args) hn hmk hstM hkP hkPi hmh (a := sz + a) (cell := cellB) hcB (fun z hz => by rw [hz] at hoB; cases hoB) hselP hmk habM hkP hkPi (g := F0 m pc ls (gk_vs (gk_ad b sz) st)) rfl (argsL := gk_vs (gk_ad b sz) (st.take na).reverse) (rest := gk_vs (gk_ad b sz) r) hlenA hstk hd
      exact ⟨vm₁, mk, hn, X₁, hstep⟩
    · obtain ⟨vm₁, X₁, hstep⟩ := X.invokevirtualNest hx hown (hK.2 _ hl args) hn hmk hstM hkP hkPi hmh (a := sz + a) (cell := cellB) hcB (fun z hz => by rw [hz] at hoB; cases hoB) hselP hmk habM hkP hkPi (g := F0 m pc ls (gk_vs (gk_ad b sz) st)) rfl (argsL := gk_vs (gk_ad b sz) (st.take na).reverse) (rest := gk_vs (gk_ad b sz) r) hlenA hstk hd
      exact ⟨vm₁, mk, hn, X₁, hstep⟩
  · obtain rfl : len = 3 := by simpa [gk_len] using hlen
    obtain ⟨hCw, hini, hmh, hpl, h40, hpar, hlink, -, -, hi⟩ := hTK mi idx 2 mj na ci hm (by decide)
    obtain ⟨hnm, hinst, hcode⟩ := hi rfl
    have hlenA : ∀ sig, parseMethodDescriptor (yn mj).desc = some sig → (gk_vs (gk_ad b sz) (st.take na).reverse).length = sig.parameters.length := by
      intro sig hsig
      rw [hsig] at hpar
      rw [gk_vs_len, List.length_reverse, gk_drop_len hdrop]
      exact (Option.some.inj hpar).symm
    have hstk : gk_vs (gk_ad b sz) st = (gk_vs (gk_ad b sz) (st.take na).reverse).reverse ++ .ref (gk_ad b sz a) :: gk_vs (gk_ad b sz) r := by
      rw [gk_vs_cut (gk_ad b sz) st na, hdrop]; rfl
    have hmg : e.platform.magicAccessors = ({} : Platform).magicAccessors := by rw [X.admits.platform]
    refine ⟨rfl, hcat, hCw, hpl, h40, ?_⟩
    rcases hlink with hl | ⟨host, hl⟩
    · obtain ⟨mk, methM, cM, kP, vm₁, hn, -, -, -, -, -, -, -, hW₁, hstep⟩ := Steps.initColdArgs (e := e) X.here hx X.warmed hmg hown hnm hmh (hK.2 _ hl args) (hK.2 _ hinst args) (hK.2 _ hcode args) (f := F0 m pc ls (gk_vs (gk_ad b sz) st)) rfl hlenA hstk hd
      exact ⟨vm₁, mk, hn, X.noted hW₁, hstep⟩
    · obtain ⟨mk, methM, cM, kP, vm₁, hn, -, -, -, -, -, -, -, hW₁, hstep⟩ := Steps.initColdArgsNest (e := e) X.here hx X.warmed hmg hown hnm hmh (hK.2 _ hl args) (hK.2 _ hinst args) (hK.2 _ hcode args) (f := F0 m pc ls (gk_vs (gk_ad b sz) st)) rfl hlenA hstk hd
      exact ⟨vm₁, mk, hn, X.noted hW₁, hstep⟩
end GK10
/-- a throw: the world's new last cell is what was thrown -/
def gk_Thr (p : Program) (l : Launch) (e : Env) (P : gk_Pg) (yn : Nat → MethodName) (code : Nat → ByteArray) (hh : Nat → List (Nat × Nat × Nat × Nat)) (D : va_G) (cl : List vw_C) (cA : Nat → ClassId) (b sz : Nat) (LW : List Cond) (J : State → Prop) : Prop :=
  ∀ (mi pc ci : Nat) (st : List Value) (w : gk_Wd), gk_xnw P mi pc = some ci → gk_cat st ≤ 8 → ∀ (R : Room) (s : State) (m : MethodId) (args : Array Value) (below : List Frame) (meth : Method) (c : Code) (H : Heap) (locs : List Loc) (cells slots : Nat) (ls : Array Slot),
    gk_M P yn code hh mi s m meth c → gk_K D cl cA LW s → J s → gk_I D cl cA b sz s w H locs cells → ls.size = c.maxLocals → 6 ≤ R.frames → 140 ≤ R.locals → cells + 1 ≤ R.cells → slots + gk_nsl P ci ≤ R.slots →
    W p l e R s m args below meth c H locs cells slots (gk_Q D cl cA b sz below s (.inr ci, w ++ [.inl (ci, [])]) (cells + 1) (slots + gk_nsl P ci)) (F0 m pc ls (gk_vs (gk_ad b sz) st))
/-- a handler: the walk goes on there -/
def gk_Cat (p : Program) (l : Launch) (e : Env) (P : gk_Pg) (yn : Nat → MethodName) (code : Nat → ByteArray) (hh : Nat → List (Nat × Nat × Nat × Nat)) (D : va_G) (cl : List vw_C) (cA : Nat → ClassId) (b sz : Nat) (LW : List Cond) (J : State → Prop) : Prop :=
  ∀ (mi pc ci h : Nat) (w : gk_Wd), gk_hnd P mi pc ci = some h → ∀ (R : Room) (s : State) (m : MethodId) (args : Array Value) (below : List Frame) (meth : Method) (c : Code) (T : State) (locs : List Loc) (cells slots : Nat) (ls : Array Slot) (rest : List Value),
    gk_M P yn code hh mi s m meth c → gk_K D cl cA LW s → J s → Stand p l e R s m args below meth c T locs cells slots → gk_I D cl cA b sz s w T.heap locs cells → (∃ fs, w[w.length - 1]? = some (.inl (ci, fs))) →
    ∃ vm₁ : Vm, Stand p l e R s m args below meth c (T.setVm vm₁) locs cells slots ∧ ∀ target, Steps p.tables e below ((T.setVm vm₁).setTop (F0 m h ls [.ref (gk_ad b sz w.length)])) target → Steps p.tables e below ((T.setTop (F0 m pc ls rest)).pushFrame (.throwing (gk_ad b sz w.length))) target
/-- what was thrown is the world's last cell -/
theorem gk_run_thrown {P : gk_Pg} : ∀ (n : Nat) (scr : Option (List Int32)) (d mi pc : Nat) (l : gk_Lc) (st : List Value) (w : gk_Wd) (ci : Nat) (w1 : gk_Wd), gk_run P n scr d mi pc l st w = some (.inr ci, w1) → ∃ fs, w1[w1.length - 1]? = some (.inl (ci, fs))
  | 0, scr, d, mi, pc, l, st, w, ci, w1, h => by simp [gk_run] at h
  | n + 1, scr, d, mi, pc, l, st, w, ci, w1, h => by
    obtain ⟨i, -, h | h | h | h | h⟩ := gk_run_inv h
    · obtain ⟨x, -, h⟩ := h
      exact gk_run_thrown n _ _ _ _ _ _ _ _ _ h
    · obtain ⟨cj, -, -, hq⟩ := h
      cases hq
      exact ⟨[], by simp⟩
    · obtain ⟨x, -, h⟩ := h
      exact gk_run_thrown n _ _ _ _ _ _ _ _ _ h
    · obtain ⟨r, -, hq⟩ := h
      cases hq
    · obtain ⟨d', mj, as, r, -, -, -, ⟨v, w2, -, h⟩ | ⟨cj, hp, w2, -, -, h⟩⟩ := h
      · exact gk_run_thrown n _ _ _ _ _ _ _ _ _ h
      · exact gk_run_thrown n _ _ _ _ _ _ _ _ _ h
section GK11
variable {p : Program} {l : Launch} {e : Env} {D : va_G} {cl : List vw_C} {cA : Nat → ClassId} {b sz : Nat} {P : gk_Pg} {yn : Nat → MethodName} {code : Nat → ByteArray} {hh : Nat → List (Nat × Nat × Nat × Nat)} {LW : List Cond} {J : State → Prop}
theorem gk_pure_len {pc : Nat} {lc : gk_Lc} {st : List Value} {i : Instr} {x : gk_Pt} (h : gk_pure pc lc st i = some x) : x.2.1.length = lc.length := by
  cases i with
  | iload k => obtain ⟨_, -, rfl⟩ := gk_ldi_inv h; rfl
  | iload_n k => obtain ⟨_, -, rfl⟩ := gk_ldi_inv h; rfl
  | lload k => obtain ⟨_, -, rfl⟩ := gk_ldl_inv h; rfl
  | lload_n k => obtain ⟨_, -, rfl⟩ := gk_ldl_inv h; rfl
  | aload k => rcases gk_lda_inv h with ⟨_, -, rfl⟩ | ⟨-, rfl⟩ <;> rfl
  | aload_n k => rcases gk_lda_inv h with ⟨_, -, rfl⟩ | ⟨-, rfl⟩ <;> rfl
  | istore k => obtain ⟨_, _, -, -, rfl⟩ := gk_sti_inv h; exact gk_st1_len _ _ _
  | istore_n k => obtain ⟨_, _, -, -, rfl⟩ := gk_sti_inv h; exact gk_st1_len _ _ _
  | lstore k => obtain ⟨_, _, -, -, rfl⟩ := gk_stl_inv h; exact gk_st2_len _ _ _
  | lstore_n k => obtain ⟨_, _, -, -, rfl⟩ := gk_stl_inv h; exact gk_st2_len _ _ _
  | astore k => obtain ⟨-, ⟨_, _, -, rfl⟩ | ⟨_, -, rfl⟩⟩ := gk_sta_inv h <;> exact gk_st1_len _ _ _
  | astore_n k => obtain ⟨-, ⟨_, _, -, rfl⟩ | ⟨_, -, rfl⟩⟩ := gk_sta_inv h <;> exact gk_st1_len _ _ _
  | iinc k n => obtain ⟨_, -, rfl⟩ := gk_inc_inv h; exact gk_st1_len _ _ _
  | iadd => obtain ⟨_, _, _, -, rfl⟩ := gk_ii_inv h; rfl
  | isub => obtain ⟨_, _, _, -, rfl⟩ := gk_ii_inv h; rfl
  | imul => obtain ⟨_, _, _, -, rfl⟩ := gk_ii_inv h; rfl
  | iand => obtain ⟨_, _, _, -, rfl⟩ := gk_ii_inv h; rfl
  | ior => obtain ⟨_, _, _, -, rfl⟩ := gk_ii_inv h; rfl
  | ixor => obtain ⟨_, _, _, -, rfl⟩ := gk_ii_inv h; rfl
  | ishl => obtain ⟨_, _, _, -, rfl⟩ := gk_ii_inv h; rfl
  | ishr => obtain ⟨_, _, _, -, rfl⟩ := gk_ii_inv h; rfl
  | idiv => obtain ⟨_, _, _, -, -, rfl⟩ := gk_iz_inv h; rfl
  | irem => obtain ⟨_, _, _, -, -, rfl⟩ := gk_iz_inv h; rfl
  | ladd => obtain ⟨_, _, _, -, rfl⟩ := gk_ll_inv h; rfl
  | lsub => obtain ⟨_, _, _, -, rfl⟩ := gk_ll_inv h; rfl
  | lmul => obtain ⟨_, _, _, -, rfl⟩ := gk_ll_inv h; rfl
  | lshl => obtain ⟨_, _, _, -, rfl⟩ := gk_li_inv h; rfl
  | lshr => obtain ⟨_, _, _, -, rfl⟩ := gk_li_inv h; rfl
  | i2l => obtain ⟨_, _, -, rfl⟩ := gk_ui_inv h; rfl
  | i2c => obtain ⟨_, _, -, rfl⟩ := gk_ui_inv h; rfl
  | l2i => obtain ⟨_, _, -, rfl⟩ := gk_ul_inv h; rfl
  | lcmp => obtain ⟨_, _, _, -, rfl⟩ := gk_lc_inv h; rfl
  | dup => obtain ⟨_, _, -, -, rfl⟩ := gk_dup_inv h; rfl
  | pop => obtain ⟨_, _, -, -, rfl⟩ := gk_pop_inv h; rfl
  | dup2 => obtain ⟨_, _, _, -, -, -, rfl⟩ := gk_dup2_inv h; rfl
  | ifCond cd off => obtain ⟨_, _, _, -, -, rfl⟩ := gk_if_inv h; rfl
  | if_icmp cd off => obtain ⟨_, _, _, _, -, -, rfl⟩ := gk_ic_inv h; rfl
  | goto off => obtain ⟨_, -, rfl⟩ := gk_to_inv h; rfl
  | tableswitch d lo hi offs => obtain ⟨_, _, _, -, rfl, -⟩ := gk_sw_inv h; rfl
  | iconst n => cases h; rfl
  | bipush n => cases h; rfl
  | sipush n => cases h; rfl
  | lconst n => cases h; rfl
  | _ => cases h
set_option maxHeartbeats 2000000 in
theorem gk_sound (hx : p.tables.exec = Jvm.exec) (hT : gk_TT P yn cl LW) (hTK : gk_TK P yn code hh cl LW) (hTD : gk_TD P code) (hLW : ∀ w ∈ LW, gk_stab w) (hJ : ∀ s U : State, J s → s.WarmedH U.vm → (∀ q, q < sz → U.heap[q]? = s.heap[q]?) → J U) (hbz : b < sz)
    (hThr : gk_Thr p l e P yn code hh D cl cA b sz LW J) (hCat : gk_Cat p l e P yn code hh D cl cA b sz LW J) : ∀ n, gk_Snd p l e P yn code hh D cl cA b sz LW J n := by
  intro n
  induction n with
  | zero =>
    intro scr d mi pc lc st w q h
    simp [gk_run] at h
  | succ n ih =>
    intro scr d mi pc lc st w q h R s m args below meth c H locs cells slots mc ms ls hM hK hX hJs hI hL hLn hfr hlo hmc hms ec es
    have hmono := gk_run_mono _ _ _ _ _ _ _ _ _ h
    obtain ⟨hb, hml, hrt, hlk, hown, hnm, hex⟩ := id hM
    have hls : c.maxLocals = ls.size := by rw [hml, hL.1, hLn]
    obtain ⟨i, hi, h1 | h1 | h1 | h1 | h1⟩ := gk_run_inv h
    · obtain ⟨x, hp, h2⟩ := h1
      obtain ⟨len, hd, hlen⟩ := hTD mi pc i hi
      exact gk_pure_ok hx hb hd hlen hL hp (fun ls' hL' => ih scr d mi x.1 x.2.1 x.2.2 w q h2 R s m args below meth c H locs cells slots mc ms ls' hM hK hX hJs hI hL' ((gk_pure_len hp).trans hLn) hfr hlo hmc hms ec es)
    · obtain ⟨ci, hxn, ⟨hcat, hd5⟩, rfl⟩ := h1
      have e1 : mc = cells + 1 := by
        have : (w ++ [.inl (ci, [])] : gk_Wd).length = w.length + 1 := by simp
        dsimp only at ec
        omega
      have e2 : ms = slots + gk_nsl P ci := by
        have : gk_sl (gk_nsl P) (w ++ [.inl (ci, [])]) = gk_sl (gk_nsl P) w + gk_nsl P ci := by rw [gk_sl_push]; rfl
        dsimp only at es
        omega
      subst e1; subst e2
      exact hThr mi pc ci st w hxn hcat R s m args below meth c H locs cells slots ls hM hK hJs hI hls.symm (by omega) (by omega) hmc hms
    · obtain ⟨x, hp, h2⟩ := h1
      obtain ⟨len, hd, hlen⟩ := hTD mi pc i hi
      have hmono2 := gk_run_mono _ _ _ _ _ _ _ _ _ h2
      refine gk_heap_ok hT hx hb hls hK hown hnm hX hbz hI (by omega) (by omega) hd hlen hp (by omega) (by omega) fun H1 locs1 cells1 slots1 a1 a2 hI1 => ?_
      exact ih scr d mi (pc + gk_len i) lc x.1 x.2 q h2 R s m args below meth c H1 locs1 cells1 slots1 mc ms ls hM hK hX hJs hI1 hL hLn hfr hlo hmc hms (by omega) (by omega)
    · obtain ⟨r, hp, rfl⟩ := h1
      obtain ⟨len, hd, hlen⟩ := hTD mi pc i hi
      have e1 : mc = cells := by dsimp only at ec; omega
      have e2 : ms = slots := by dsimp only at es; omega
      subst e1; subst e2
      exact gk_ret_ok hx hb hrt hlk hI hd hlen hp
    · obtain ⟨d', mj, as, r, rfl, hcall, hfit, hrun⟩ := h1
      obtain ⟨len, hd, hlen⟩ := hTD mi pc i hi
      intro T hTh X
      subst hTh
      obtain ⟨rfl, hcat, hCw, hpl, h40, vm₁, mk, hn, X₁, hstep⟩ := gk_inv (ls := ls) hTK X hx hK hown hI (by rw [hb]; exact hd) hlen hcall
      have hcat2 : 2 * (F0 m pc ls (gk_vs (gk_ad b sz) r)).monitorRoom + ((F0 m pc ls (gk_vs (gk_ad b sz) r)).stack.map fun v => v.category).sum ≤ 8 := by
        show 2 * 0 + ((gk_vs (gk_ad b sz) r).map fun v => v.category).sum ≤ 8
        rw [gk_cat_v]; omega
      rcases hrun with ⟨v, w1, hr1, hr2⟩ | ⟨ci, hp, w1, hr1, hhn, hr2⟩
      · have hm2 := gk_run_mono _ _ _ _ _ _ _ _ _ hr2
        obtain ⟨t, T', L, k, n', hst, X', hI', hk, hn', ht⟩ := gk_go ih hLW hJ X₁ hK hJs hI (g := F0 m pc ls (gk_vs (gk_ad b sz) r)) rfl hls.symm (by rw [hb]; exact hd) hcat2 hCw hpl h40 hn hfit hr1 (by omega) (by omega) (by dsimp only; omega) (by dsimp only; omega)
        have ht' : t = T'.setTop (F0 m (pc + 3) ls (gk_vs (gk_ad b sz) (v.toList ++ r))) := by
          rw [gk_vs_app]
          cases v <;> exact ht
        dsimp only at hk hn' hI'
        obtain ⟨t2, a1, a2⟩ := ih scr (d' + 1) mi (pc + 3) lc (v.toList ++ r) w1 q hr2 R s m args below meth c T'.heap (locs ++ L) (cells + k) (slots + n') mc ms ls hM hK hX hJs hI' hL hLn hfr hlo hmc hms (by omega) (by omega) T' rfl X'
        refine ⟨t2, hstep t2 (fun acts => (hst acts).trans ?_), a2⟩
        rw [ht']; exact a1
      · have hm2 := gk_run_mono _ _ _ _ _ _ _ _ _ hr2
        obtain ⟨t, T', L, k, n', hst, X', hI', hk, hn', ht⟩ := gk_go ih hLW hJ X₁ hK hJs hI (g := F0 m pc ls (gk_vs (gk_ad b sz) r)) rfl hls.symm (by rw [hb]; exact hd) hcat2 hCw hpl h40 hn hfit hr1 (by omega) (by omega) (by dsimp only; omega) (by dsimp only; omega)
        dsimp only at hk hn' hI' ht
        obtain ⟨vm₂, X₂, hgo⟩ := hCat mi pc ci hp w1 hhn R s m args below meth c T' (locs ++ L) (cells + k) (slots + n') ls (gk_vs (gk_ad b sz) r) hM hK hJs X' hI' (gk_run_thrown _ _ _ _ _ _ _ _ _ _ hr1)
        obtain ⟨t2, a1, a2⟩ := ih scr (d' + 1) mi hp lc [.ref w1.length] w1 q hr2 R s m args below meth c T'.heap (locs ++ L) (cells + k) (slots + n') mc ms ls hM hK hX hJs hI' hL hLn hfr hlo hmc hms (by omega) (by omega) (T'.setVm vm₂) rfl X₂
        refine ⟨t2, hstep t2 (fun acts => (hst acts).trans ?_), a2⟩
        rw [ht]; exact hgo t2 a1
end GK11
end
section
/-! part 10: throws. A walk may be begun again in its middle: then nothing has been written yet -/
def gk_mid (s : State) (H : Heap) (u : Nat) : State := { s with heap := H, slotsUsed := u }
section GK12
variable {p : Program} {l : Launch} {e : Env} {R : Room} {s : State} {m : MethodId} {args : Array Value} {below : List Frame} {meth : Method} {c : Code} {T : State} {locs : List Loc} {cells slots : Nat}
theorem gk_restart (X : Stand p l e R s m args below meth c T locs cells slots) (hc : cells ≤ R.cells) (hs : slots ≤ R.slots) : Stand p l e { R with cells := R.cells - cells, slots := R.slots - slots } (gk_mid s T.heap T.slotsUsed) m args below meth c T [] 0 0 := by
  have hroom := X.room
  have hsz := X.heapSize
  have hus := X.used
  have hbk := X.book
  refine ⟨X.admits, X.cas, X.clock, X.frames, ?_, X.hears, X.method, X.code, X.here, X.tail, X.warmed, X.limits, X.bytes, ?_⟩
  · simp only [State.hasRoom, Bool.and_eq_true, decide_eq_true_eq] at hroom ⊢
    obtain ⟨⟨⟨⟨h1, h2⟩, h3⟩, h4⟩, h5⟩ := hroom
    refine ⟨⟨⟨⟨h1, h2⟩, ?_⟩, ?_⟩, hbk⟩
    · show T.heap.size + (R.cells - cells) ≤ _
      omega
    · show T.slotsUsed + (R.slots - slots) ≤ _
      omega
  · obtain ⟨e1, -⟩ := X.same
    refine ⟨?_, Nat.le_refl _, Nat.le_refl _, ?_, ?_, fun a c h => ⟨c, h, rfl, rfl, fun _ _ => rfl⟩⟩
    · exact e1
    · show T.slotsUsed = T.slotsUsed + ((T.heap.toList.drop T.heap.size).map (·.slots.size)).sum
      rw [List.drop_eq_nil_of_le (by simp)]; rfl
    · show ((T.heap.toList.drop T.heap.size).map (·.slots.size)).sum ≤ 0
      rw [List.drop_eq_nil_of_le (by simp)]; exact Nat.le_refl _
end GK12
section GK13
variable {p : Program} {l : Launch} {e : Env} {R : Room} {s : State} {m : MethodId} {args : Array Value} {below : List Frame} {meth : Method} {c : Code} {H : Heap} {locs : List Loc} {cells slots : Nat} {Q : State → Prop} {g : JFrame}
theorem gk_W_mid (hc : cells ≤ R.cells) (hs : slots ≤ R.slots) (k : ∀ T : State, T.heap = H → Stand p l e R s m args below meth c T locs cells slots → W p l e { R with cells := R.cells - cells, slots := R.slots - slots } (gk_mid s H T.slotsUsed) m args below meth c H [] 0 0 Q g) : W p l e R s m args below meth c H locs cells slots Q g := by
  intro T hT X
  have X' := gk_restart X hc hs
  rw [hT] at X'
  exact k T hT X T hT X'
end GK13
/-- what was there stays there, where nothing is named as written -/
theorem gk_same_nil {s t : State} {k n : Nat} (h : s.sameButNew t [] k n) : ∀ q, q < s.heap.size → t.heap[q]? = s.heap[q]? := by
  intro q hq
  obtain ⟨-, -, -, -, -, h6⟩ := h
  obtain ⟨c', h1, h2, h3, h4⟩ := h6 q s.heap[q] (Array.getElem?_eq_getElem hq)
  rw [h1, Array.getElem?_eq_getElem hq, h2]
  have : c'.slots = s.heap[q].slots := by
    apply Array.ext_getElem?
    intro i
    exact h4 i (by simp)
  rw [this]
theorem gk_same_mid {s T t : State} {locs : List Loc} {cells slots k n : Nat} (h1 : s.sameButNew (T.setVm s.vm) locs cells slots) (h2 : (gk_mid s T.heap T.slotsUsed).sameButNew ({ t with vm := s.vm } : State) [] k n) : s.sameButNew ({ t with vm := s.vm } : State) (locs ++ []) (cells + k) (slots + n) := by
  refine State.sameButNew.trans h1 ?_
  obtain ⟨a1, a2, a3, a4, a5, a6⟩ := h2
  refine ⟨?_, a2, a3, a4, a5, a6⟩
  refine a1.trans ?_
  have e1 := h1.1
  have e2 : ∀ F : List Frame, (T.setVm s.vm).setFrames F = { s.setFrames F with heap := T.heap, slotsUsed := T.slotsUsed } := by
    intro F
    rw [e1]
    show ({ (s.setFrames (T.setVm s.vm).frames).setFrames F with heap := T.heap, slotsUsed := T.slotsUsed } : State) = _
    rw [State.setFrames_setFrames]
  rw [e2]
  rfl
end
section
/-! part 11: a throw is what the interpreter says of it -/
def gk_TY (P : gk_Pg) (yn : Nat → MethodName) (code : Nat → ByteArray) (hh : Nat → List (Nat × Nat × Nat × Nat)) (cl : List vw_C) (LW : List Cond) (J : State → Prop) : Prop := ∀ mi pc ci : Nat, gk_xnw P mi pc = some ci → ∃ (idx ic : Nat) (C : String) (T : u_T) (names : List String),
  decode (code mi) pc = .ok (.new idx, 3) ∧ decode (code mi) (pc + 3) = .ok (.dup, 1) ∧ decode (code mi) (pc + 3 + 1) = .ok (.invokespecial ic, 3) ∧ decode (code mi) (pc + 3 + 1 + 3) = .ok (.athrow, 1) ∧ hh mi = [] ∧ cl[ci]? = some (C, T, 0) ∧ gk_nsl P ci = 6 ∧ names.length ≤ 2 ∧ Bundle.fit C = true ∧ (∀ n ∈ names, Bundle.fit n = true) ∧
  Cond.classLink (yn mi).cls idx C ∈ LW ∧ Cond.instantiable C 6 ∈ LW ∧ Cond.initialized C ∈ LW ∧ ∀ s : State, J s → ∀ a ∈ Bundle.ownAtoms0 (yn mi).cls ic C names, ∀ ar : Array Value, a.before ar s = true
section GK14
variable {p : Program} {l : Launch} {e : Env} {D : va_G} {cl : List vw_C} {cA : Nat → ClassId} {b sz : Nat} {P : gk_Pg} {yn : Nat → MethodName} {code : Nat → ByteArray} {hh : Nat → List (Nat × Nat × Nat × Nat)} {LW : List Cond} {J : State → Prop}
set_option maxHeartbeats 2000000 in
theorem gk_thr (hx : p.tables.exec = Jvm.exec) (htr : e.platform.stackTraces = false) (hTY : gk_TY P yn code hh cl LW J) (hLW : ∀ w ∈ LW, gk_stab w) (hJ : ∀ s U : State, J s → s.WarmedH U.vm → (∀ q, q < sz → U.heap[q]? = s.heap[q]?) → J U) : gk_Thr p l e P yn code hh D cl cA b sz LW J := by
  intro mi pc ci st w hxn hcat R s m args below meth c H locs cells slots ls hM hK hJs hI hls hfr hlo hmc hms
  obtain ⟨hb, hml, hrt, hlk, hown, hnm, hex⟩ := hM
  obtain ⟨idx, ic, C, T, names, hd0, hd3, hd4, hd7, hh0, hc, hn6, hnl, hfC, hfN, hcl, hins, hini, hat⟩ := hTY mi pc ci hxn
  rw [hn6] at hms ⊢
  refine gk_W_mid (by omega) (by omega) fun T0 hT0 X0 => ?_
  have hW1 : s.WarmedH (gk_mid s H T0.slotsUsed).vm := State.WarmedH.refl s
  have hK1 : gk_K D cl cA LW (gk_mid s H T0.slotsUsed) := gk_K_warm hLW hW1 hK
  have hJ1 : J (gk_mid s H T0.slotsUsed) := hJ s _ hJs hW1 (fun q hq => hI.2.1.2.1 q (Nat.lt_of_lt_of_le hq hI.2.2.2.2) (fun z => absurd hq (Nat.not_lt.mpr z)))
  have hfc : (gk_mid s H T0.slotsUsed).vm.findClass C = some (D.1 ci) := (hK1.1.1 ci (C, T, 0) hc).2.1
  have hs0 : X0.same.1 = X0.same.1 := rfl
  have hsame0 : s.sameButNew (T0.setVm s.vm) locs cells slots := X0.same
  refine W.newcK (s := gk_mid s H T0.slotsUsed) hx hb hown (hK1.2 _ hcl args) (hK1.2 _ hins args) (hK1.2 _ hini args) rfl hd0 (by show 0 + 1 ≤ R.cells - cells; omega) (by show 0 + 6 ≤ R.slots - slots; omega) hfc rfl fun H' kC hkC e1 z1 o1 => ?_
  refine lv_dup (va := .ref H.size) (rest := gk_vs (gk_ad b sz) st) hx hb hd3 rfl ?_
  intro T2 hT2 X2
  have hcat2 : ((gk_vs (gk_ad b sz) st).map fun v => v.category).sum ≤ 8 := by rw [gk_cat_v]; exact hcat
  have hempty : c.exceptionTable.toList = [] := by
    rw [hh0] at hex
    exact List.map_eq_nil_iff.mp hex
  obtain ⟨U, hst, hrun, hend, hWU, hsame, ce, hce, hoc⟩ := X2.ctorThrow0 hx htr (own := (yn mi).cls) (cls := C) (names := names) (ic := ic) hown hfC hfN (fun a ha => hat _ hJ1 a ha args) (fun x hx' => by cases hx') hfc hkC (by rw [hT2]; exact e1) (Nat.le_refl _)
    (g := F0 m (pc + 3 + 1) ls (.ref H.size :: .ref H.size :: gk_vs (gk_ad b sz) st)) rfl hls rfl rfl (rest := gk_vs (gk_ad b sz) st) rfl (by rw [hb]; exact hd4) (by rw [hb]; exact hd7) (fun x hx' => by rw [hempty] at hx'; cases hx')
    (by show names.length + 3 < R.frames; omega) (by show 2 * 0 + (1 + ((gk_vs (gk_ad b sz) st).map fun v => v.category).sum) + (13 * (names.length + 1) + 41) ≤ R.locals; omega) hlk
  have hold : ∀ q, q < H.size → U.heap[q]? = H[q]? := gk_same_nil hsame
  have hUs : U.heap.size = H.size + 1 := by
    have h1 : U.heap.size ≤ H.size + (0 + 1) := hsame.2.2.1
    have h2 : H.size < U.heap.size := (Array.getElem?_eq_some_iff.mp hce).1
    omega
  have hHs : H.size = sz + w.length := hI.2.2.1
  refine ⟨U, hst, .threw H.size, locs ++ [], hrun, hend, ?_, hWU, ?_, ?_⟩
  · show Outcome.threw H.size = Outcome.threw (gk_ad b sz (w ++ [.inl (ci, [])] : gk_Wd).length)
    rw [List.length_append, List.length_singleton, hHs]
    rfl
  · have h9 := gk_same_mid (k := 0 + 1) (n := 0 + 6) hsame0 (t := U) (by rw [hT0]; exact hsame)
    exact h9
  · refine ⟨?_, ⟨?_, fun q h1 h2 => (hold q (Nat.lt_of_lt_of_le h1 hI.2.1.1)).trans (hI.2.1.2.1 q h1 h2), fun x hx' => ?_⟩, ?_, ?_, hI.2.2.2.2⟩
    · rw [← gk_w_push]
      refine va_P.app (hI.1.kept fun k q hk => hold q.1 ((hI.1 k q hk).lt)) fun k q hk => ?_
      have hz : k < 1 := (List.getElem?_eq_some_iff.mp hk).1
      rw [show k = 0 by omega] at hk
      cases hk
      refine ⟨(C, T, 0), hc, ce, ?_, ?_, hoc.vm, fun k hk => absurd hk (Nat.not_lt_zero _)⟩
      · show U.heap[sz + w.length]? = some ce
        rw [← hHs]; exact hce
      · exact Option.some.inj (hoc.cls.symm.trans hfc)
    · rw [hUs]; exact Nat.le_trans hI.2.1.1 (Nat.le_succ _)
    · rw [List.append_nil] at hx'
      exact hI.2.1.2.2 x hx'
    · rw [hUs, hHs, List.length_append, List.length_singleton]; omega
    · have := hI.2.2.2.1
      rw [List.length_append, List.length_singleton]; omega
end GK14
end
section
/-! part 12: handlers, their classes resolved or not -/
section GK15
variable {E : CtlPost} {e : Env} {d : Bool} {acts : List Action} {S : State} {f : JFrame} {a : Addr} {Q : Handler → Pre}
theorem gk_go_cold {x : ExceptionTableEntry} {t : List ExceptionTableEntry} {c : ClassId} {cell : Cell} {vm' : Vm} (hx : covers x f.pc = true) (h0 : x.catchType ≠ 0)
    (hg : (Jvm.resolveClass f.method.cls x.catchType).Gives e.toSetting S.vm (.ok c) vm') (hsz : vm'.classes.size ≤ S.vm.classes.size) (hcell : S.heap[a]? = some cell) (hobj : ∀ k, cell.vm ≠ .statics k) (hk : ∃ k, vm'.classes[cell.cls]? = some k) (hc : ∃ k, vm'.classes[c]? = some k) :
    wp (findHandler.go f a (x :: t)) Q E e d acts S ↔ if vm'.assignable cell.cls c = true then Q (.found x.handlerPc) d acts (S.setVm vm') else wp (findHandler.go f a t) Q E e d acts (S.setVm vm') := by
  simp only [covers] at hx
  obtain ⟨ha, ht⟩ := hg.op (op := VmOp.resolveClass f.method.cls x.catchType) rfl
  cases hfit : vm'.assignable cell.cls c <;>
    simp [findHandler.go, hx, h0, ha, ht, hsz, hcell, hobj, hk, hc, hfit, VmOp.dirties, VmOp.acts]
end GK15
def gk_Finds (e : Env) (S : State) (f : JFrame) (a : Addr) (h : Handler) (S' : State) : Prop := ∀ (Q : Handler → Pre) (E : CtlPost) (d : Bool) (acts : List Action), wp (findHandler f a) Q E e d acts S ↔ Q h d acts S'
theorem gk_step_catch {e : Env} {S S' : State} {a : Addr} {f : JFrame} {r : List Frame} {pc : Nat} (hfind : gk_Finds e S f a (.found pc) S') : (stepThrowing e S a (.java f :: r)).Is (S'.setFrames (.java { f with pc := pc, stack := [.ref a] } :: r)) [] := by
  simp only [stepThrowing, searchFrame, vmDo]
  generalize hr : Sem.go _ e false [] S = res
  obtain ⟨as, rfl, ha⟩ := Sem.eq_ok_of hr (a := Handler.found pc) (s' := S') (acts' := []) (by simp [hfind _ _ _ _])
  exact ⟨rfl, ha⟩
theorem gk_caught {tb : Tables} {e : Env} {T target : State} {g : JFrame} {c : Code} {below : List Frame} {a : Addr} {pc : Nat} {vm₁ : Vm} (h : At T g.method c below) (hfind : gk_Finds e ((T.setTop g).pushFrame (.throwing a)) g a (.found pc) (((T.setVm vm₁).setTop g).pushFrame (.throwing a)))
    (hrest : Steps tb e below ((T.setVm vm₁).setTop { g with pc := pc, stack := [.ref a] }) target) : Steps tb e below ((T.setTop g).pushFrame (.throwing a)) target := by
  obtain ⟨hgo, hw⟩ := h.throwing a
  refine Steps.head hgo hw ?_
  rw [stepThread_throwing (frames_entered h.top _), (gk_step_catch hfind).1]
  obtain ⟨g₀, hg⟩ := Option.isSome_iff_exists.mp h.top
  obtain ⟨r, hr⟩ := State.topJava?_eq_some.mp hg
  have hr' : (T.setVm vm₁).frames = .java g₀ :: r := hr
  rw [State.pushFrame, State.setFrames_setFrames, State.setTop_of_frames _ hr', State.setFrames_setFrames]
  rw [State.setTop_of_frames _ hr'] at hrest
  rw [hr]
  exact hrest
theorem gk_assign_refl (vm : Vm) (c : ClassId) : vm.assignable c c = true := by
  show vm.assignableAux (255 + 1) c c = true
  rw [Vm.assignableAux]
  simp
section GK16
variable {p : Program} {l : Launch} {e : Env} {R : Room} {s : State} {m : MethodId} {args : Array Value} {below : List Frame} {meth : Method} {c : Code} {locs : List Loc} {cells slots : Nat}
theorem gk_find_list {own C : String} (hown : s.vm.findClass own = some m.cls) {g : JFrame} (hg : g.method = m) {a : Addr} {cell : Cell} (hvm : cell.vm = .none) (hcls : s.vm.findClass C = some cell.cls) {x : ExceptionTableEntry} {post : List ExceptionTableEntry} (hx : covers x g.pc = true) (hx0 : x.catchType ≠ 0) (hxl : (Cond.classLink own x.catchType C).before args s = true) :
    ∀ (pre : List ExceptionTableEntry), (∀ y ∈ pre, covers y g.pc = true ∧ y.catchType ≠ 0 ∧ ∃ C', (Cond.classLink own y.catchType C').before args s = true ∧ va_Nc C C' s) → ∀ T : State, T.heap[a]? = some cell → Stand p l e R s m args below meth c T locs cells slots →
      ∃ vm₁ : Vm, Stand p l e R s m args below meth c (T.setVm vm₁) locs cells slots ∧ ∀ (Q : Handler → Pre) (E : CtlPost) (d : Bool) (acts : List Action), wp (findHandler.go g a (pre ++ x :: post)) Q E e d acts ((T.setTop g).pushFrame (.throwing a)) ↔ Q (.found x.handlerPc) d acts (((T.setVm vm₁).setTop g).pushFrame (.throwing a)) := by
  have hobj : ∀ k, cell.vm ≠ .statics k := fun k h => by rw [hvm] at h; cases h
  intro pre
  induction pre with
  | nil =>
    intro _ T hcell X
    have hpl : e.platform.magicAccessors = ({} : Platform).magicAccessors := by rw [X.admits.platform]
    obtain ⟨cc, hfcc, hcl⟩ := Cond.classLink_spec hown hxl e.platform hpl
    cases hcls.symm.trans hfcc
    obtain ⟨hg₁, hwarm, hready⟩ := State.classEntry (e := e) X.warmed hcl
    have X₁ := X.noted hwarm
    have hex : ∃ k, (T.vm.noted m.cls x.catchType (.cls cell.cls)).classes[cell.cls]? = some k := Vm.classAt_of_findClass (name := C) (by rw [hwarm.alike.findClass]; exact hcls)
    refine ⟨_, X₁, fun Q E d acts => ?_⟩
    subst hg
    rw [List.nil_append, gk_go_cold (S := (T.setTop g).pushFrame (.throwing a)) (vm' := T.vm.noted g.method.cls x.catchType (.cls cell.cls)) hx hx0 hg₁ (Nat.le_of_eq (by rw [Stand.throwing_vm]; exact Vm.size_noted ..)) (by rw [Stand.throwing_heap]; exact hcell) hobj hex hex, if_pos (gk_assign_refl _ _)]
    rfl
  | cons y pre ih =>
    intro hpre T hcell X
    obtain ⟨hy, hy0, C', hyl, ⟨c1, t1, n1, n2, n3⟩⟩ := hpre y List.mem_cons_self
    have hpl : e.platform.magicAccessors = ({} : Platform).magicAccessors := by rw [X.admits.platform]
    obtain ⟨cc, hfcc, hcl⟩ := Cond.classLink_spec hown hyl e.platform hpl
    cases n2.symm.trans hfcc
    cases hcls.symm.trans n1
    obtain ⟨hg₁, hwarm, hready⟩ := State.classEntry (e := e) X.warmed hcl
    have X₁ := X.noted hwarm
    have hex : ∃ k, (T.vm.noted m.cls y.catchType (.cls t1)).classes[cell.cls]? = some k := Vm.classAt_of_findClass (name := C) (by rw [hwarm.alike.findClass]; exact hcls)
    have hex2 : ∃ k, (T.vm.noted m.cls y.catchType (.cls t1)).classes[t1]? = some k := Vm.classAt_of_findClass (name := C') (by rw [hwarm.alike.findClass]; exact n2)
    have hna : ¬ (T.vm.noted m.cls y.catchType (.cls t1)).assignable cell.cls t1 = true := by
      rw [hwarm.alike.assignable, n3]; decide
    obtain ⟨vm₁, X₂, hfind⟩ := ih (fun z hz => hpre z (List.mem_cons_of_mem _ hz)) (T.setVm (T.vm.noted m.cls y.catchType (.cls t1))) hcell X₁
    refine ⟨vm₁, X₂, fun Q E d acts => ?_⟩
    subst hg
    rw [List.cons_append, gk_go_cold (S := (T.setTop g).pushFrame (.throwing a)) (vm' := T.vm.noted g.method.cls y.catchType (.cls t1)) hy hy0 hg₁ (Nat.le_of_eq (by rw [Stand.throwing_vm]; exact Vm.size_noted ..)) (by rw [Stand.throwing_heap]; exact hcell) hobj hex hex2, if_neg hna]
    exact hfind Q E d acts
end GK16
end
section
/-! part 13: a handler is what the interpreter says of it; the interpreter is right, no premise of throws left -/
def gk_TH (P : gk_Pg) (yn : Nat → MethodName) (hh : Nat → List (Nat × Nat × Nat × Nat)) (cl : List vw_C) (LW : List Cond) (J : State → Prop) : Prop := ∀ mi pc ci h : Nat, gk_hnd P mi pc ci = some h → ∃ (C : String) (T : u_T) (N : Nat) (pre post : List (Nat × Nat × Nat × Nat)) (st en ct : Nat),
  cl[ci]? = some (C, T, N) ∧ hh mi = pre ++ (st, en, h, ct) :: post ∧ st ≤ pc ∧ pc < en ∧ ct ≠ 0 ∧ Cond.classLink (yn mi).cls ct C ∈ LW ∧ ∀ y ∈ pre, y.1 ≤ pc ∧ pc < y.2.1 ∧ y.2.2.2 ≠ 0 ∧ ∃ C' : String, Cond.classLink (yn mi).cls y.2.2.2 C' ∈ LW ∧ ∀ s : State, J s → va_Nc C C' s
section GK17
variable {p : Program} {l : Launch} {e : Env} {D : va_G} {cl : List vw_C} {cA : Nat → ClassId} {b sz : Nat} {P : gk_Pg} {yn : Nat → MethodName} {code : Nat → ByteArray} {hh : Nat → List (Nat × Nat × Nat × Nat)} {LW : List Cond} {J : State → Prop}
set_option maxHeartbeats 1000000 in
theorem gk_cat_ok (hTH : gk_TH P yn hh cl LW J) : gk_Cat p l e P yn code hh D cl cA b sz LW J := by
  intro mi pc ci h w hh0 R s m args below meth c T locs cells slots ls rest hM hK hJs X hI ⟨fs, hw⟩
  obtain ⟨hb, hml, hrt, hlk, hown, hnm, hex⟩ := hM
  obtain ⟨C, Tt, N, pre, post, st, en, ct, hc, hhe, h1, h2, h3, hcl, hpre⟩ := hTH mi pc ci h hh0
  rw [hhe] at hex
  obtain ⟨pre', rest', hsp, hpre', hrest'⟩ := List.map_eq_append_iff.mp hex
  obtain ⟨x, post', hrr, hx, hpost'⟩ := List.map_eq_cons_iff.mp hrest'
  subst hrr
  have hx1 : x.startPc = st := congrArg (fun q => q.1) hx
  have hx2 : x.endPc = en := congrArg (fun q => q.2.1) hx
  have hx3 : x.handlerPc = h := congrArg (fun q => q.2.2.1) hx
  have hx4 : x.catchType = ct := congrArg (fun q => q.2.2.2) hx
  have hwl : 0 < w.length := Nat.lt_of_le_of_lt (Nat.zero_le _) (List.getElem?_eq_some_iff.mp hw).1
  obtain ⟨k, hk⟩ : ∃ k, w.length = k + 1 := ⟨w.length - 1, by omega⟩
  rw [hk] at hw ⊢
  have hw' : w[k]? = some (.inl (ci, fs)) := hw
  obtain ⟨r, hr, cell, g1, g2, g3, -⟩ := hI.1 k _ (gk_w_at hw')
  have hcls : s.vm.findClass C = some cell.cls := by rw [g2]; exact (hK.1.1 ci (C, Tt, N) hc).2.1
  have hcell : T.heap[gk_ad b sz (k + 1)]? = some cell := g1
  obtain ⟨vm₁, X₁, hfind⟩ := gk_find_list (g := F0 m pc ls rest) (a := gk_ad b sz (k + 1)) (cell := cell) (x := x) (post := post') hown rfl g3 hcls (by simp [covers, hx1, hx2]; exact ⟨h1, h2⟩) (by rw [hx4]; exact h3) (by rw [hx4]; exact hK.2 _ hcl args) pre' (fun y hy => by
    have hy' : (y.startPc, y.endPc, y.handlerPc, y.catchType) ∈ pre := by rw [← hpre']; exact List.mem_map.mpr ⟨y, hy, rfl⟩
    obtain ⟨q1, q2, q3, C', q4, q5⟩ := hpre _ hy'
    exact ⟨by simp [covers]; exact ⟨q1, q2⟩, q3, C', hK.2 _ q4 args, q5 s hJs⟩) T hcell X
  refine ⟨vm₁, X₁, fun target hst => ?_⟩
  refine gk_caught (g := F0 m pc ls rest) (pc := h) (vm₁ := vm₁) X.here (fun Q E d acts => ?_) hst
  rw [Jvm.W.findHandler_eq (meth := meth) (code := c) X.method' X.code, hsp, hfind Q E d acts, hx3]
theorem gk_right (hx : p.tables.exec = Jvm.exec) (htr : e.platform.stackTraces = false) (hT : gk_TT P yn cl LW) (hTK : gk_TK P yn code hh cl LW) (hTD : gk_TD P code) (hTY : gk_TY P yn code hh cl LW J) (hTH : gk_TH P yn hh cl LW J) (hLW : ∀ w ∈ LW, gk_stab w) (hJ : ∀ s U : State, J s → s.WarmedH U.vm → (∀ q, q < sz → U.heap[q]? = s.heap[q]?) → J U) (hbz : b < sz) :
    ∀ n, gk_Snd p l e P yn code hh D cl cA b sz LW J n :=
  gk_sound hx hT hTK hTD hLW hJ hbz (gk_thr hx htr hTY hLW hJ) (gk_cat_ok hTH)
end GK17
end
