/-! An abstract interpreter of the bytecode, part 1: values, locals, the instructions that touch neither heap nor calls. A reference '.ref k' is a number of the abstract world; 'ad' says at which address it lies. -/
abbrev gk_Lc : Type := List (Option Value)
def gk_v (ad : Nat → Nat) : Value → Value
  | .ref k => .ref (ad k)
  | v => v
theorem gk_v_cat (ad : Nat → Nat) (v : Value) : (gk_v ad v).category = v.category := by cases v <;> rfl
def gk_vs (ad : Nat → Nat) (st : List Value) : List Value := st.map (gk_v ad)
theorem gk_vs_cons (ad : Nat → Nat) (v : Value) (st : List Value) : gk_vs ad (v :: st) = gk_v ad v :: gk_vs ad st := rfl
def gk_L (ad : Nat → Nat) (ls : Array Slot) (l : gk_Lc) : Prop := ls.size = l.length ∧ lv_wf ls ∧ ∀ (i : Nat) (v : Value), l[i]? = some (some v) → ls[i]? = some (.val (gk_v ad v))
def gk_c1 (o : Option Value) : Option Value := match o with
  | some v => if v.category = 2 then none else some v
  | none => none
def gk_st1 (v : Value) : Nat → gk_Lc → gk_Lc
  | _, [] => []
  | 0, _ :: r => some v :: r
  | 1, o :: r => gk_c1 o :: gk_st1 v 0 r
  | i + 2, o :: r => o :: gk_st1 v (i + 1) r
def gk_st2 (v : Value) (i : Nat) (l : gk_Lc) : gk_Lc := (gk_st1 v i l).set (i + 1) none
theorem gk_st1_len (v : Value) : ∀ (l : gk_Lc) (i : Nat), (gk_st1 v i l).length = l.length
  | [], i => by cases i <;> rfl
  | _ :: _, 0 => rfl
  | _ :: r, 1 => by simp [gk_st1, gk_st1_len v r 0]
  | _ :: r, i + 2 => by simp [gk_st1, gk_st1_len v r (i + 1)]
theorem gk_st2_len (v : Value) (l : gk_Lc) (i : Nat) : (gk_st2 v i l).length = l.length := by simp [gk_st2, gk_st1_len]
theorem gk_c1_some {o : Option Value} {u : Value} (h : gk_c1 o = some u) : o = some u ∧ u.category ≠ 2 := by
  unfold gk_c1 at h
  cases o with
  | none => cases h
  | some v =>
    dsimp only at h
    split at h
    · cases h
    · rename_i hc
      cases h
      exact ⟨rfl, hc⟩
theorem gk_st1_get (v : Value) : ∀ (l : gk_Lc) (i j : Nat) (u : Value), (gk_st1 v i l)[j]? = some (some u) → (j = i ∧ u = v) ∨ (j ≠ i ∧ l[j]? = some (some u) ∧ (j + 1 = i → u.category ≠ 2))
  | [], i, j, u, h => by cases i <;> simp [gk_st1] at h
  | o :: r, 0, 0, u, h => by
    simp [gk_st1] at h
    exact Or.inl ⟨rfl, h.symm⟩
  | o :: r, 0, j + 1, u, h => by
    simp [gk_st1] at h
    exact Or.inr ⟨by omega, by simpa using h, by omega⟩
  | o :: r, 1, 0, u, h => by
    simp [gk_st1] at h
    obtain ⟨h1, h2⟩ := gk_c1_some h
    exact Or.inr ⟨by omega, by simp [h1], fun _ => h2⟩
  | o :: r, 1, j + 1, u, h => by
    simp only [gk_st1, List.getElem?_cons_succ] at h
    rcases gk_st1_get v r 0 j u h with ⟨h1, h2⟩ | ⟨h1, h2, h3⟩
    · exact Or.inl ⟨by omega, h2⟩
    · exact Or.inr ⟨by omega, by simpa using h2, by omega⟩
  | o :: r, i + 2, 0, u, h => by
    simp [gk_st1] at h
    exact Or.inr ⟨by omega, by simp [h], by omega⟩
  | o :: r, i + 2, j + 1, u, h => by
    simp only [gk_st1, List.getElem?_cons_succ] at h
    rcases gk_st1_get v r (i + 1) j u h with ⟨h1, h2⟩ | ⟨h1, h2, h3⟩
    · exact Or.inl ⟨by omega, h2⟩
    · exact Or.inr ⟨by omega, by simpa using h2, fun q => h3 (by omega)⟩
def gk_pr (ad : Nat → Nat) : Nat → gk_Lc → List (Nat × Value)
  | _, [] => []
  | i, none :: r => gk_pr ad (i + 1) r
  | i, some v :: r => (i, gk_v ad v) :: gk_pr ad (i + 1) r
theorem gk_pr_mem (ad : Nat → Nat) : ∀ (l : gk_Lc) (i : Nat) (q : Nat × Value), q ∈ gk_pr ad i l → ∃ (k : Nat) (v : Value), q = (i + k, gk_v ad v) ∧ l[k]? = some (some v)
  | [], i, q, h => by simp [gk_pr] at h
  | none :: r, i, q, h => by
    simp only [gk_pr] at h
    obtain ⟨k, v, h1, h2⟩ := gk_pr_mem ad r (i + 1) q h
    exact ⟨k + 1, v, by rw [h1]; congr 1; omega, by simpa using h2⟩
  | some u :: r, i, q, h => by
    simp only [gk_pr, List.mem_cons] at h
    rcases h with h | h
    · exact ⟨0, u, by rw [h]; rfl, rfl⟩
    · obtain ⟨k, v, h1, h2⟩ := gk_pr_mem ad r (i + 1) q h
      exact ⟨k + 1, v, by rw [h1]; congr 1; omega, by simpa using h2⟩
theorem gk_pr_in (ad : Nat → Nat) : ∀ (l : gk_Lc) (i k : Nat) (v : Value), l[k]? = some (some v) → (i + k, gk_v ad v) ∈ gk_pr ad i l
  | [], i, k, v, h => by simp at h
  | none :: r, i, 0, v, h => by simp at h
  | none :: r, i, k + 1, v, h => by
    have := gk_pr_in ad r (i + 1) k v (by simpa using h)
    simp only [gk_pr]
    rwa [show i + (k + 1) = i + 1 + k by omega]
  | some u :: r, i, 0, v, h => by
    simp at h
    subst h
    simp [gk_pr]
  | some u :: r, i, k + 1, v, h => by
    have := gk_pr_in ad r (i + 1) k v (by simpa using h)
    simp only [gk_pr, List.mem_cons]
    exact Or.inr (by rwa [show i + (k + 1) = i + 1 + k by omega])
theorem gk_has {ad : Nat → Nat} {ls : Array Slot} {l : gk_Lc} (h : gk_L ad ls l) : lv_has ls l.length (gk_pr ad 0 l) := by
  refine ⟨h.1, h.2.1, fun q hq => ?_⟩
  obtain ⟨k, v, h1, h2⟩ := gk_pr_mem ad l 0 q hq
  subst h1
  simpa using h.2.2 k v h2
theorem gk_after1 {ad : Nat → Nat} {ls : Array Slot} {l : gk_Lc} {i : Nat} {v : Value} (h : lv_has ls l.length ((i, gk_v ad v) :: (gk_pr ad 0 l).filter (fun q => !(q.1 == i) && !(q.1 + 1 == i && q.2.category == 2)))) : gk_L ad ls (gk_st1 v i l) := by
  refine ⟨by rw [gk_st1_len]; exact h.1, h.2.1, fun j u hj => ?_⟩
  rcases gk_st1_get v l i j u hj with ⟨h1, h2⟩ | ⟨h1, h2, h3⟩
  · subst h1; subst h2
    exact h.2.2 (j, gk_v ad u) List.mem_cons_self
  · refine h.2.2 (j, gk_v ad u) (List.mem_cons_of_mem _ (List.mem_filter.mpr ⟨by simpa using gk_pr_in ad l 0 j u h2, ?_⟩))
    simp only [Bool.and_eq_true, Bool.not_eq_true', beq_eq_false_iff_ne, ne_eq, Bool.and_eq_false_iff, gk_v_cat]
    refine ⟨h1, ?_⟩
    by_cases hq : j + 1 = i
    · exact Or.inr (h3 hq)
    · exact Or.inl hq
theorem gk_after2 {ad : Nat → Nat} {ls : Array Slot} {l : gk_Lc} {i : Nat} {v : Value} (h : lv_has ls l.length ((i, gk_v ad v) :: (gk_pr ad 0 l).filter (fun q => !(q.1 == i) && (!(q.1 == i + 1) && !(q.1 + 1 == i && q.2.category == 2))))) : gk_L ad ls (gk_st2 v i l) := by
  refine ⟨by rw [gk_st2_len]; exact h.1, h.2.1, fun j u hj => ?_⟩
  have hj0 : j ≠ i + 1 ∧ (gk_st1 v i l)[j]? = some (some u) := by
    unfold gk_st2 at hj
    rw [List.getElem?_set] at hj
    split at hj
    · split at hj <;> cases hj
    · rename_i hne
      exact ⟨fun e => hne e.symm, hj⟩
  rcases gk_st1_get v l i j u hj0.2 with ⟨h1, h2⟩ | ⟨h1, h2, h3⟩
  · subst h1; subst h2
    exact h.2.2 (j, gk_v ad u) List.mem_cons_self
  · refine h.2.2 (j, gk_v ad u) (List.mem_cons_of_mem _ (List.mem_filter.mpr ⟨by simpa using gk_pr_in ad l 0 j u h2, ?_⟩))
    simp only [Bool.and_eq_true, Bool.not_eq_true', beq_eq_false_iff_ne, ne_eq, Bool.and_eq_false_iff, gk_v_cat]
    refine ⟨h1, hj0.1, ?_⟩
    by_cases hq : j + 1 = i
    · exact Or.inr (h3 hq)
    · exact Or.inl hq
def gk_jmp (pc : Nat) (off : Int) : Option Nat := match (pc : Int) + off with
  | .ofNat t => some t
  | .negSucc _ => none
theorem gk_jmp_eq {pc t : Nat} {off : Int} (h : gk_jmp pc off = some t) : (pc : Int) + off = (t : Int) := by
  unfold gk_jmp at h
  split at h
  · rename_i k hk
    cases h
    exact hk
  · cases h
abbrev gk_Pt : Type := Nat × gk_Lc × List Value
def gk_to (pc : Nat) (off : Int) (l : gk_Lc) (r : List Value) : Option gk_Pt := match gk_jmp pc off with
  | some t => some (t, l, r)
  | none => none
def gk_br (pc : Nat) (off : Int) (l : gk_Lc) (r : List Value) (b : Bool) : Option gk_Pt := match gk_jmp pc off with
  | some t => some (if b = true then t else pc + 3, l, r)
  | none => none
def gk_cmp (c : ClassFile.Cond) (x y : Int32) : Bool := match c with
  | .eq => decide (x = y)
  | .ne => decide (¬ x = y)
  | .lt => decide (x < y)
  | .ge => decide (y ≤ x)
  | .gt => decide (y < x)
  | .le => decide (x ≤ y)
def gk_ldi (l : gk_Lc) (k : Nat) : Option Value := match l[k]? with
  | some (some (.int x)) => some (.int x)
  | _ => none
def gk_ldl (l : gk_Lc) (k : Nat) : Option Value := match l[k]? with
  | some (some (.long x)) => some (.long x)
  | _ => none
def gk_lda (l : gk_Lc) (k : Nat) : Option Value := match l[k]? with
  | some (some (.ref x)) => some (.ref x)
  | some (some .null) => some .null
  | _ => none
def gk_ld (n : Nat) (l : gk_Lc) (st : List Value) (o : Option Value) : Option gk_Pt := match o with
  | some v => some (n, l, v :: st)
  | none => none
def gk_sti (n : Nat) (k : Nat) (l : gk_Lc) (st : List Value) : Option gk_Pt := match st with
  | .int x :: r => if k < l.length then some (n, gk_st1 (.int x) k l, r) else none
  | _ => none
def gk_sta (n : Nat) (k : Nat) (l : gk_Lc) (st : List Value) : Option gk_Pt := match st with
  | .ref x :: r => if k < l.length then some (n, gk_st1 (.ref x) k l, r) else none
  | .null :: r => if k < l.length then some (n, gk_st1 .null k l, r) else none
  | _ => none
def gk_stl (n : Nat) (k : Nat) (l : gk_Lc) (st : List Value) : Option gk_Pt := match st with
  | .long x :: r => if k + 1 < l.length then some (n, gk_st2 (.long x) k l, r) else none
  | _ => none
def gk_ii (pc : Nat) (l : gk_Lc) (st : List Value) (f : Int32 → Int32 → Int32) : Option gk_Pt := match st with
  | .int y :: .int x :: r => some (pc + 1, l, .int (f x y) :: r)
  | _ => none
def gk_iz (pc : Nat) (l : gk_Lc) (st : List Value) (f : Int32 → Int32 → Int32) : Option gk_Pt := match st with
  | .int y :: .int x :: r => if y = 0 then none else some (pc + 1, l, .int (f x y) :: r)
  | _ => none
def gk_ll (pc : Nat) (l : gk_Lc) (st : List Value) (f : Int64 → Int64 → Int64) : Option gk_Pt := match st with
  | .long y :: .long x :: r => some (pc + 1, l, .long (f x y) :: r)
  | _ => none
def gk_li (pc : Nat) (l : gk_Lc) (st : List Value) (f : Int64 → Int32 → Int64) : Option gk_Pt := match st with
  | .int y :: .long x :: r => some (pc + 1, l, .long (f x y) :: r)
  | _ => none
def gk_ui (pc : Nat) (l : gk_Lc) (st : List Value) (f : Int32 → Value) : Option gk_Pt := match st with
  | .int x :: r => some (pc + 1, l, f x :: r)
  | _ => none
def gk_ul (pc : Nat) (l : gk_Lc) (st : List Value) (f : Int64 → Value) : Option gk_Pt := match st with
  | .long x :: r => some (pc + 1, l, f x :: r)
  | _ => none
def gk_lc (pc : Nat) (l : gk_Lc) (st : List Value) : Option gk_Pt := match st with
  | .long y :: .long x :: r => some (pc + 1, l, .int (lg_cmp x y) :: r)
  | _ => none
def gk_dup (pc : Nat) (l : gk_Lc) (st : List Value) : Option gk_Pt := match st with
  | v :: r => if v.category = 1 then some (pc + 1, l, v :: v :: r) else none
  | _ => none
def gk_pop (pc : Nat) (l : gk_Lc) (st : List Value) : Option gk_Pt := match st with
  | v :: r => if v.category = 1 then some (pc + 1, l, r) else none
  | _ => none
def gk_dup2 (pc : Nat) (l : gk_Lc) (st : List Value) : Option gk_Pt := match st with
  | v :: u :: r => if v.category = 1 ∧ u.category = 1 then some (pc + 1, l, v :: u :: v :: u :: r) else none
  | _ => none
def gk_if (pc : Nat) (l : gk_Lc) (st : List Value) (c : ClassFile.Cond) (off : Int) : Option gk_Pt := match st with
  | .int x :: r => gk_br pc off l r (gk_cmp c x 0)
  | _ => none
def gk_ic (pc : Nat) (l : gk_Lc) (st : List Value) (c : ClassFile.Cond) (off : Int) : Option gk_Pt := match st with
  | .int y :: .int x :: r => gk_br pc off l r (gk_cmp c x y)
  | _ => none
def gk_inc (pc : Nat) (l : gk_Lc) (st : List Value) (k : Nat) (n : Int) : Option gk_Pt := match l[k]? with
  | some (some (.int x)) => some (pc + 3, gk_st1 (.int (x + Int32.ofInt n)) k l, st)
  | _ => none
def gk_sw (pc : Nat) (l : gk_Lc) (st : List Value) (d lo hi : Int) (offs : Array Int) : Option gk_Pt := match st with
  | .int x :: r => if x.toInt < lo ∨ hi < x.toInt then gk_to pc d l r else (match offs[(x.toInt - lo).toNat]? with
    | some off => gk_to pc off l r
    | none => none)
  | _ => none
/-- the length that an instruction has in the code (0: whatever it is) -/
def gk_len (i : Instr) : Nat := match i with
  | .bipush _ | .iload _ | .lload _ | .aload _ | .istore _ | .lstore _ | .astore _ | .ldc _ | .newarray _ => 2
  | .sipush _ | .iinc _ _ | .ifCond _ _ | .if_icmp _ _ | .goto _ | .ldc_w _ | .ldc2_w _ | .getfield _ | .putfield _ | .invokevirtual _ | .invokespecial _ | .invokestatic _ | .new _ => 3
  | .tableswitch _ _ _ _ => 0
  | _ => 1
/-- an instruction without heap and calls: where it goes on, with which locals and operands -/
def gk_pure (pc : Nat) (l : gk_Lc) (st : List Value) (i : Instr) : Option gk_Pt := match i with
  | .iconst n => some (pc + 1, l, .int (Int32.ofInt n) :: st)
  | .bipush n => some (pc + 2, l, .int (Int8.ofInt n).toInt32 :: st)
  | .sipush n => some (pc + 3, l, .int (Int16.ofInt n).toInt32 :: st)
  | .lconst n => some (pc + 1, l, .long (Int64.ofNat (n : Nat)) :: st)
  | .iload k => gk_ld (pc + 2) l st (gk_ldi l k)
  | .iload_n k => gk_ld (pc + 1) l st (gk_ldi l k)
  | .lload k => gk_ld (pc + 2) l st (gk_ldl l k)
  | .lload_n k => gk_ld (pc + 1) l st (gk_ldl l k)
  | .aload k => gk_ld (pc + 2) l st (gk_lda l k)
  | .aload_n k => gk_ld (pc + 1) l st (gk_lda l k)
  | .istore k => gk_sti (pc + 2) k l st
  | .istore_n k => gk_sti (pc + 1) k l st
  | .lstore k => gk_stl (pc + 2) k l st
  | .lstore_n k => gk_stl (pc + 1) k l st
  | .astore k => gk_sta (pc + 2) k l st
  | .astore_n k => gk_sta (pc + 1) k l st
  | .iinc k n => gk_inc pc l st k n
  | .iadd => gk_ii pc l st (fun x y => x + y)
  | .isub => gk_ii pc l st (fun x y => x - y)
  | .imul => gk_ii pc l st (fun x y => x * y)
  | .iand => gk_ii pc l st (fun x y => x &&& y)
  | .ior => gk_ii pc l st (fun x y => x ||| y)
  | .ixor => gk_ii pc l st (fun x y => x ^^^ y)
  | .ishl => gk_ii pc l st (fun x y => x <<< (y &&& 31))
  | .ishr => gk_ii pc l st (fun x y => x >>> (y &&& 31))
  | .idiv => gk_iz pc l st (fun x y => x / y)
  | .irem => gk_iz pc l st (fun x y => x - x / y * y)
  | .ladd => gk_ll pc l st (fun x y => x + y)
  | .lsub => gk_ll pc l st (fun x y => x - y)
  | .lmul => gk_ll pc l st (fun x y => x * y)
  | .lshl => gk_li pc l st (fun x y => x <<< (y.toInt64 &&& 63))
  | .lshr => gk_li pc l st (fun x y => x >>> (y.toInt64 &&& 63))
  | .i2l => gk_ui pc l st (fun x => .long x.toInt64)
  | .i2c => gk_ui pc l st (fun x => .int (x.toUInt32 % 65536).toInt32)
  | .l2i => gk_ul pc l st (fun x => .int x.toInt32)
  | .lcmp => gk_lc pc l st
  | .dup => gk_dup pc l st
  | .pop => gk_pop pc l st
  | .dup2 => gk_dup2 pc l st
  | .ifCond c off => gk_if pc l st c off
  | .if_icmp c off => gk_ic pc l st c off
  | .goto off => gk_to pc off l st
  | .tableswitch d lo hi offs => gk_sw pc l st d lo hi offs
  | _ => none
