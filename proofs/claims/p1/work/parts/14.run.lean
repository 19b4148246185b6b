/-! part 5: the interpreter. A program is its tables:
 1 instructions by method and pc; 2 fields read (class, place) by method and pool index; 3 fields written; 4 classes made; 5 constants; 6 calls (kind, method or class, arguments, receiver's class): kind 0 static, 1 virtual, 2 constructor, 3 Object(), 4 arraycopy of longs, 5 Math.min of longs; 7 locals and answer's type of a method; 8 a new object's fields; 9 field types; 10 slots of a class; 11 throws: class thrown, by method and pc; 12 handlers by method, pc, class -/
abbrev gk_Pg : Type := (Nat → Nat → Option Instr) × (Nat → Nat → Option (Nat × Nat)) × (Nat → Nat → Option (Nat × Nat)) × (Nat → Nat → Option Nat) × (Nat → Nat → Option Value) × (Nat → Nat → Option (Nat × Nat × Nat × Nat)) × (Nat → Nat × Option FieldType) × (Nat → List Value) × (Nat → Nat → FieldType) × (Nat → Nat) × (Nat → Nat → Option Nat) × (Nat → Nat → Nat → Option Nat)
def gk_dec (P : gk_Pg) : Nat → Nat → Option Instr := P.1
def gk_fld (P : gk_Pg) : Nat → Nat → Option (Nat × Nat) := P.2.1
def gk_pfl (P : gk_Pg) : Nat → Nat → Option (Nat × Nat) := P.2.2.1
def gk_nwc (P : gk_Pg) : Nat → Nat → Option Nat := P.2.2.2.1
def gk_cst (P : gk_Pg) : Nat → Nat → Option Value := P.2.2.2.2.1
def gk_mth (P : gk_Pg) : Nat → Nat → Option (Nat × Nat × Nat × Nat) := P.2.2.2.2.2.1
def gk_inf (P : gk_Pg) : Nat → Nat × Option FieldType := P.2.2.2.2.2.2.1
def gk_dfl (P : gk_Pg) : Nat → List Value := P.2.2.2.2.2.2.2.1
def gk_fty (P : gk_Pg) : Nat → Nat → FieldType := P.2.2.2.2.2.2.2.2.1
def gk_nsl (P : gk_Pg) : Nat → Nat := P.2.2.2.2.2.2.2.2.2.1
def gk_xnw (P : gk_Pg) : Nat → Nat → Option Nat := P.2.2.2.2.2.2.2.2.2.2.1
def gk_hnd (P : gk_Pg) : Nat → Nat → Nat → Option Nat := P.2.2.2.2.2.2.2.2.2.2.2
abbrev gk_HR : Type := Option (List Value × gk_Wd)
def gk_hget (o : Option (Nat × Nat)) (w : gk_Wd) (st : List Value) : gk_HR := match o, st with
  | some (ci, k), .ref (a + 1) :: r => (match w[a]? with
    | some (.inl (cj, fs)) => if cj = ci then (match fs[k]? with
      | some v => some (v :: r, w)
      | none => none) else none
    | _ => none)
  | _, _ => none
def gk_hput (o : Option (Nat × Nat)) (ft : Nat → Nat → FieldType) (w : gk_Wd) (st : List Value) : gk_HR := match o, st with
  | some (ci, k), v :: .ref (a + 1) :: r => (match w[a]? with
    | some (.inl (cj, fs)) => if cj = ci ∧ k < fs.length ∧ fits (ft ci k) v = true then some (r, w.set a (.inl (ci, fs.set k v))) else none
    | _ => none)
  | _, _ => none
def gk_out (i : Int32) (n : Nat) : Bool := decide (i < 0 ∨ n ≤ i.toNatClampNeg)
def gk_hald (t : Nat) (scr : Option (List Int32)) (w : gk_Wd) (st : List Value) : gk_HR := match st with
  | .int i :: .ref 0 :: r => (match scr with
    | some xs => if t = 0 ∧ gk_out i xs.length = false then some (.int (xs.getD i.toNatClampNeg 0) :: r, w) else none
    | none => none)
  | .int i :: .ref (a + 1) :: r => (match w[a]? with
    | some (.inr (.inl (u, xs))) => if u = t ∧ gk_out i xs.length = false then some (.int (xs.getD i.toNatClampNeg 0) :: r, w) else none
    | _ => none)
  | _ => none
def gk_hlld (w : gk_Wd) (st : List Value) : gk_HR := match st with
  | .int i :: .ref (a + 1) :: r => (match w[a]? with
    | some (.inr (.inr xs)) => if gk_out i xs.length = false then some (.long (xs.getD i.toNatClampNeg 0) :: r, w) else none
    | _ => none)
  | _ => none
def gk_hast (t : Nat) (w : gk_Wd) (st : List Value) : gk_HR := match st with
  | .int x :: .int i :: .ref (a + 1) :: r => (match w[a]? with
    | some (.inr (.inl (u, xs))) => if u = t ∧ gk_out i xs.length = false ∧ fits (gk_ty t) (.int x) = true then some (r, w.set a (.inr (.inl (t, xs.set i.toNatClampNeg x)))) else none
    | _ => none)
  | _ => none
def gk_hlst (w : gk_Wd) (st : List Value) : gk_HR := match st with
  | .long x :: .int i :: .ref (a + 1) :: r => (match w[a]? with
    | some (.inr (.inr xs)) => if gk_out i xs.length = false then some (r, w.set a (.inr (.inr (xs.set i.toNatClampNeg x)))) else none
    | _ => none)
  | _ => none
def gk_hlen (scr : Option (List Int32)) (w : gk_Wd) (st : List Value) : gk_HR := match st with
  | .ref 0 :: r => (match scr with
    | some xs => some (.int (Int32.ofNat xs.length) :: r, w)
    | none => none)
  | .ref (a + 1) :: r => (match w[a]? with
    | some (.inr (.inl (t, xs))) => if t < 3 then some (.int (Int32.ofNat xs.length) :: r, w) else none
    | _ => none)
  | _ => none
def gk_hnew (o : Option Nat) (df : Nat → List Value) (w : gk_Wd) (st : List Value) : gk_HR := match o with
  | some ci => some (.ref (w.length + 1) :: st, w ++ [.inl (ci, df ci)])
  | none => none
def gk_harr (ty : ArrayType) (w : gk_Wd) (st : List Value) : gk_HR := match st with
  | .int n :: r => if n < 0 ∨ 60000 < n.toNatClampNeg then none else (match ty with
    | .int => some (.ref (w.length + 1) :: r, w ++ [.inr (.inl (0, List.replicate n.toNatClampNeg 0))])
    | .char => some (.ref (w.length + 1) :: r, w ++ [.inr (.inl (1, List.replicate n.toNatClampNeg 0))])
    | .boolean => some (.ref (w.length + 1) :: r, w ++ [.inr (.inl (2, List.replicate n.toNatClampNeg 0))])
    | .long => some (.ref (w.length + 1) :: r, w ++ [.inr (.inr (List.replicate n.toNatClampNeg 0))])
    | _ => none)
  | _ => none
def gk_hldi (o : Option Value) (w : gk_Wd) (st : List Value) : gk_HR := match o with
  | some (.int x) => some (.int x :: st, w)
  | _ => none
def gk_hldl (o : Option Value) (w : gk_Wd) (st : List Value) : gk_HR := match o with
  | some (.long x) => some (.long x :: st, w)
  | _ => none
def gk_cat (st : List Value) : Nat := (st.map fun v => v.category).sum
def gk_hobj (w : gk_Wd) (st : List Value) : gk_HR := match st with
  | .ref _ :: r => if gk_cat r ≤ 8 then some (r, w) else none
  | _ => none
def gk_hcpy (w : gk_Wd) (st : List Value) : gk_HR := match st with
  | .int n :: .int dp :: .ref (a1 + 1) :: .int sp :: .ref (a0 + 1) :: r => (match w[a0]?, w[a1]? with
    | some (.inr (.inr f)), some (.inr (.inr g)) => if ¬ sp < 0 ∧ ¬ dp < 0 ∧ ¬ n < 0 ∧ sp.toNatClampNeg + n.toNatClampNeg ≤ f.length ∧ dp.toNatClampNeg + n.toNatClampNeg ≤ g.length ∧ gk_cat r ≤ 8 then some (r, w.set a1 (.inr (.inr (gk_cpy f g sp.toNatClampNeg dp.toNatClampNeg n.toNatClampNeg)))) else none
    | _, _ => none)
  | _ => none
def gk_hmin (w : gk_Wd) (st : List Value) : gk_HR := match st with
  | .long y :: .long x :: r => if gk_cat r ≤ 8 then some (.long (if y < x then y else x) :: r, w) else none
  | _ => none
def gk_heap (P : gk_Pg) (scr : Option (List Int32)) (mi : Nat) (w : gk_Wd) (st : List Value) (i : Instr) : gk_HR := match i with
  | .getfield k => gk_hget (gk_fld P mi k) w st
  | .putfield k => gk_hput (gk_pfl P mi k) (gk_fty P) w st
  | .iaload => gk_hald 0 scr w st
  | .caload => gk_hald 1 scr w st
  | .baload => gk_hald 2 scr w st
  | .laload => gk_hlld w st
  | .iastore => gk_hast 0 w st
  | .castore => gk_hast 1 w st
  | .bastore => gk_hast 2 w st
  | .lastore => gk_hlst w st
  | .arraylength => gk_hlen scr w st
  | .new k => gk_hnew (gk_nwc P mi k) (gk_dfl P) w st
  | .newarray ty => gk_harr ty w st
  | .ldc k => gk_hldi (gk_cst P mi k) w st
  | .ldc_w k => gk_hldi (gk_cst P mi k) w st
  | .ldc2_w k => gk_hldl (gk_cst P mi k) w st
  | .invokespecial k => (match gk_mth P mi k with
    | some (3, _, _, _) => gk_hobj w st
    | _ => none)
  | .invokestatic k => (match gk_mth P mi k with
    | some (4, _, _, _) => gk_hcpy w st
    | some (5, _, _, _) => gk_hmin w st
    | _ => none)
  | _ => none
/-- a call: the method, its arguments, what is left of the operands -/
def gk_call (P : gk_Pg) (mi : Nat) (w : gk_Wd) (st : List Value) (i : Instr) : Option (Nat × List Value × List Value) := match i with
  | .invokestatic k => (match gk_mth P mi k with
    | some (0, mj, na, _) => if na ≤ st.length ∧ gk_cat (st.drop na) ≤ 8 then some (mj, (st.take na).reverse, st.drop na) else none
    | _ => none)
  | .invokevirtual k => (match gk_mth P mi k with
    | some (1, mj, na, ci) => (match st.drop na with
      | .ref (a + 1) :: r => (match w[a]? with
        | some (.inl (cj, _)) => if cj = ci ∧ gk_cat r ≤ 8 then some (mj, .ref (a + 1) :: (st.take na).reverse, r) else none
        | _ => none)
      | _ => none)
    | _ => none)
  | .invokespecial k => (match gk_mth P mi k with
    | some (2, mj, na, _) => (match st.drop na with
      | .ref a :: r => if gk_cat r ≤ 8 then some (mj, .ref a :: (st.take na).reverse, r) else none
      | _ => none)
    | _ => none)
  | _ => none
/-- a return: its value -/
def gk_ret (ty : Option FieldType) (st : List Value) (i : Instr) : Option (Option Value) := match i with
  | .return_ => (match ty, st with
    | none, [] => some none
    | _, _ => none)
  | .ireturn => (match ty, st with
    | some ty, [.int x] => if fits ty (.int x) = true then some (some (.int x)) else none
    | _, _ => none)
  | .lreturn => (match ty, st with
    | some .long, [.long x] => some (some (.long x))
    | _, _ => none)
  | _ => none
def gk_slots (v : Value) : List (Option Value) := if v.category = 2 then [some v, none] else [some v]
def gk_entry (as : List Value) (n : Nat) : gk_Lc := as.flatMap gk_slots ++ List.replicate (n - (as.flatMap gk_slots).length) none
abbrev gk_Res : Type := Option Value ⊕ Nat
abbrev gk_Out : Type := Option (gk_Res × gk_Wd)
/-- n steps at most, d calls deep at most; the script is the law's alone. An answer, or the class of what was thrown (its object is then the world's last cell) -/
def gk_run (P : gk_Pg) : Nat → Option (List Int32) → Nat → Nat → Nat → gk_Lc → List Value → gk_Wd → gk_Out
  | 0, _, _, _, _, _, _, _ => none
  | n + 1, scr, d, mi, pc, l, st, w => match gk_dec P mi pc with
    | none => none
    | some i => match gk_pure pc l st i with
      | some q => gk_run P n scr d mi q.1 q.2.1 q.2.2 w
      | none => match gk_xnw P mi pc with
        | some ci => if gk_cat st ≤ 8 ∧ 5 ≤ d then some (.inr ci, w ++ [.inl (ci, [])]) else none
        | none => match gk_heap P scr mi w st i with
          | some q => gk_run P n scr d mi (pc + gk_len i) l q.1 q.2
          | none => match gk_ret (gk_inf P mi).2 st i with
            | some r => some (.inl r, w)
            | none => match d, gk_call P mi w st i with
              | d' + 1, some (mj, as, r) => if (as.flatMap gk_slots).length ≤ (gk_inf P mj).1 then (match gk_run P n none d' mj 0 (gk_entry as (gk_inf P mj).1) [] w with
                | some (.inl v, w1) => gk_run P n scr d mi (pc + 3) l (v.toList ++ r) w1
                | some (.inr ci, w1) => (match gk_hnd P mi pc ci with
                  | some h => gk_run P n scr d mi h l [.ref w1.length] w1
                  | none => none)
                | none => none) else none
              | _, _ => none
