/-! part 32: the loops over a rule's symbols -/
theorem f_28_n {s : Nat} (h : s < 2147483648) : f_28 (Int32.ofNat s) = if s < 16 then 1 else 0 := by
  unfold f_28
  rw [show (16 : Int32) = Int32.ofNat 16 from rfl]
  by_cases hs : s < 16
  · rw [if_neg (fun q => by have := (i_le (by omega) h).mp q; omega), if_pos hs]
  · rw [if_pos ((i_le (by omega) h).mpr (by omega)), if_neg hs]
theorem f_28_0 {s : Nat} (h : s < 2147483648) : f_28 (Int32.ofNat s) = 0 ↔ 16 ≤ s := by
  rw [f_28_n h]
  by_cases hs : s < 16
  · rw [if_pos hs]
    constructor
    · intro q; exact absurd q (by decide)
    · omega
  · rw [if_neg hs]
    constructor
    · omega
    · intro _; rfl
theorem len_t {r : Rl} (hr : okR r) {k : Nat} (h : r.2.length < k) (hk : k < 2147483648) : f_24 (pk r) < Int32.ofNat k := by
  rw [f_24_pk hr]; exact (i_lt (by omega) hk).mpr h
theorem len_f {r : Rl} (hr : okR r) {k : Nat} (h : k ≤ r.2.length) : ¬ f_24 (pk r) < Int32.ofNat k := by
  have := hr.2.1
  rw [f_24_pk hr]; intro q; have := (i_lt (by omega) (by omega)).mp q; omega
def vs (s : List Nat) (x : Int32) : Int32 := s.foldl (fun x v => if v < 16 then x ||| ((1 : Int32) <<< (Int32.ofNat v &&& 31)) else x) x
theorem vs_cons (v : Nat) (s : List Nat) (x : Int32) : vs (v :: s) x = vs s (if v < 16 then x ||| ((1 : Int32) <<< (Int32.ofNat v &&& 31)) else x) := rfl
theorem vs_bt : ∀ (s : List Nat) (x : Int32) (v : Nat), bt (vs s x) v = (bt x v || decide (v < 16 ∧ v ∈ s))
  | [], x, v => by simp [vs]
  | u :: s, x, v => by
    rw [vs_cons, vs_bt s _ v]
    by_cases hu : u < 16
    · rw [if_pos hu, bt_or, bt_pow (by omega)]
      by_cases hv : v = u
      · subst hv; simp [hu]
      · simp [hv]
    · rw [if_neg hu]
      by_cases hv : v = u
      · subst hv; simp [hu]
      · simp [hv]
section LF
variable {d : Nat} {rr : List gk_S} {w : gk_Wd}
theorem E33_l (hS : gk_Sh rr w) {r : Rl} (hr : okR r) : ∀ (m k : Nat) (x : Int32), k + m = r.2.length → gk_W none (d + 1) 33 4 [some (.long (pk r)), none, some (.int x), some (.int (Int32.ofNat (k + 1)))] [] w (.inl (some (.int (vs (r.2.drop k) x)))) w
  | 0, k, x, hk => by
    have h10 := hr.2.1
    refine sg_33_4 hS _ _ _ ⟨fun _ => ⟨?_, rfl⟩, fun q => absurd (len_t hr (by omega) (by omega)) q⟩
    rw [List.drop_eq_nil_of_le (by omega)]; rfl
  | m + 1, k, x, hk => by
    have h10 := hr.2.1
    have hkl : k < r.2.length := by omega
    have hs := hr.2.2 _ (List.getElem_mem hkl)
    refine sg_33_4 hS _ _ _ ⟨fun q => absurd q (len_f hr (by omega)), fun q => ⟨fun q2 => ?_, fun q2 => ?_⟩⟩
    · rw [f_26_pk hr hkl, f_28_0 (by omega)] at q2
      rw [i_s, List.drop_eq_getElem_cons hkl, vs_cons, if_neg (by omega)]
      exact E33_l hS hr m (k + 1) x (by omega)
    · rw [f_26_pk hr hkl, f_28_0 (by omega)] at q2
      rw [f_26_pk hr hkl, i_s, List.drop_eq_getElem_cons hkl, vs_cons, if_pos (by omega)]
      exact E33_l hS hr m (k + 1) _ (by omega)
theorem E33 (hS : gk_Sh rr w) {r : Rl} (hr : okR r) : gk_E (d + 1) 33 [.long (pk r)] w (.inl (some (.int (vs r.2 0)))) w := gk_E_i rfl rfl (sg_33_0 hS _ (E33_l hS hr r.2.length 0 0 (by omega)))
theorem E34_l (hS : gk_Sh rr w) {r : Rl} (hr : okR r) : ∀ (m k : Nat), k + m = r.2.length → gk_W none (d + 1) 34 2 [some (.long (pk r)), none, some (.int (Int32.ofNat (k + 1)))] [] w (.inl (some (.int (if (r.2.drop k).any (fun s => decide (16 ≤ s)) then 1 else 0)))) w
  | 0, k, hk => by
    have h10 := hr.2.1
    refine sg_34_2 hS _ _ ⟨fun _ => ⟨?_, rfl⟩, fun q => absurd (len_t hr (by omega) (by omega)) q⟩
    rw [List.drop_eq_nil_of_le (by omega)]; rfl
  | m + 1, k, hk => by
    have h10 := hr.2.1
    have hkl : k < r.2.length := by omega
    have hs := hr.2.2 _ (List.getElem_mem hkl)
    refine sg_34_2 hS _ _ ⟨fun q => absurd q (len_f hr (by omega)), fun q => ⟨fun q2 => ?_, fun q2 => ⟨?_, rfl⟩⟩⟩
    · rw [f_26_pk hr hkl, f_28_0 (by omega)] at q2
      rw [i_s, List.drop_eq_getElem_cons hkl, List.any_cons, decide_eq_false (by omega), Bool.false_or]
      exact E34_l hS hr m (k + 1) (by omega)
    · rw [f_26_pk hr hkl, f_28_0 (by omega)] at q2
      rw [List.drop_eq_getElem_cons hkl, List.any_cons, decide_eq_true (by omega), Bool.true_or, if_pos rfl]
def hl (s : List Nat) : Int32 := if s.any (fun s => decide (16 ≤ s)) then 1 else 0
theorem E34 (hS : gk_Sh rr w) {r : Rl} (hr : okR r) : gk_E (d + 1) 34 [.long (pk r)] w (.inl (some (.int (hl r.2)))) w := gk_E_i rfl rfl (sg_34_0 hS _ (E34_l hS hr r.2.length 0 (by omega)))
theorem hl_0 {s : List Nat} : hl s = 0 ↔ ∀ v ∈ s, v < 16 := by
  unfold hl
  by_cases h : s.any (fun s => decide (16 ≤ s)) = true
  · rw [if_pos h]
    constructor
    · intro q; exact absurd q (by decide)
    · intro q
      obtain ⟨v, hv, h2⟩ := List.any_eq_true.mp h
      have := q v hv
      have := of_decide_eq_true h2
      omega
  · rw [if_neg h]
    refine ⟨fun _ v hv => ?_, fun _ => rfl⟩
    by_cases h16 : v < 16
    · exact h16
    · exact absurd (List.any_eq_true.mpr ⟨v, hv, decide_eq_true (by omega)⟩) h
/-- rules that may have become too long -/
def pko : Option Rl → Int64
  | some r => pk r
  | none => -1
def apO (o : Option Rl) (x : Nat) : Option Rl := match o with
  | some r => if r.2.length < 10 then some (r.1, r.2 ++ [x]) else none
  | none => none
def okO (o : Option Rl) : Prop := ∀ r, o = some r → okR r
theorem okO_ap {o : Option Rl} (h : okO o) {x : Nat} (hx : x < 22) : okO (apO o x) := by
  intro r hr
  unfold apO at hr
  split at hr
  · rename_i q
    have hq := h q rfl
    split at hr
    · cases hr
      refine ⟨hq.1, by simp; omega, fun y hy => ?_⟩
      simp only [List.mem_append, List.mem_singleton] at hy
      rcases hy with hy | rfl
      · exact hq.2.2 y hy
      · exact hx
    · cases hr
  · cases hr
theorem f_91_pko {o : Option Rl} (h : okO o) {x : Nat} (hx : x < 22) : f_91 (pko o) (Int32.ofNat x) = pko (apO o x) := by
  cases o with
  | none => exact f_91_long _
  | some r =>
    simp only [pko, apO]
    rw [f_91_pk (h r rfl) hx]
    split <;> rfl
theorem apO_fold : ∀ (xs : List Nat) (l : Nat) (s : List Nat), s.length ≤ 10 → xs.foldl apO (some (l, s)) = if s.length + xs.length ≤ 10 then some (l, s ++ xs) else none
  | [], l, s, h => by simp [h]
  | x :: xs, l, s, h => by
    simp only [List.foldl_cons, apO, List.length_cons]
    by_cases h1 : s.length < 10
    · rw [if_pos h1, apO_fold xs l (s ++ [x]) (by simp; omega)]
      simp only [List.length_append, List.length_cons, List.length_nil, List.append_assoc, List.cons_append, List.nil_append]
      rw [show s.length + (0 + 1) + xs.length = s.length + (xs.length + 1) by omega]
    · rw [if_neg h1, if_neg (by omega)]
      induction xs with
      | nil => rfl
      | cons y ys ih => exact ih
theorem E99_l (hS : gk_Sh rr w) {r : Rl} (hr : okR r) {j : Nat} (hj : j < r.2.length) : ∀ (m k : Nat), k + m = r.2.length → gk_W none (d + 2) 99 11 [some (.long (pk r)), none, some (.int (Int32.ofNat (j + 1))), some (.long (pk (r.1, (r.2.take k).eraseIdx j))), none, some (.int (Int32.ofNat (k + 1)))] [] w (.inl (some (.long (pk (r.1, r.2.eraseIdx j))))) w
  | 0, k, hk => by
    have h10 := hr.2.1
    refine sg_99_11 hS _ _ _ _ ⟨fun _ => ⟨?_, rfl⟩, fun q => absurd (len_t hr (by omega) (by omega)) q⟩
    rw [List.take_of_length_le (by omega)]
  | m + 1, k, hk => by
    have h10 := hr.2.1
    have hkl : k < r.2.length := by omega
    have hs := hr.2.2 _ (List.getElem_mem hkl)
    refine sg_99_11 hS _ _ _ _ ⟨fun q => absurd q (len_f hr (by omega)), fun q => ⟨fun q2 => ?_, fun q2 => ?_⟩⟩
    · have hjk : k ≠ j := fun e => q2 (by rw [e])
      have hok : okR (r.1, (r.2.take k).eraseIdx j) := ⟨hr.1, Nat.le_trans (List.length_eraseIdx_le _ _) (by simp; omega), fun x hx => hr.2.2 x (List.mem_of_mem_take (List.mem_of_mem_eraseIdx hx))⟩
      rw [f_26_pk hr hkl, f_91_pk hok hs]
      have hlen : ((r.2.take k).eraseIdx j).length < 10 := Nat.lt_of_le_of_lt (List.length_eraseIdx_le _ _) (by simp; omega)
      rw [if_pos hlen]
      have e : (r.2.take k).eraseIdx j ++ [r.2[k]] = (r.2.take (k + 1)).eraseIdx j := by
        rw [List.take_succ_eq_append_getElem hkl]
        by_cases hjl : j < (r.2.take k).length
        · rw [List.eraseIdx_append_of_lt_length hjl]
        · have : k < j := by simp at hjl; omega
          rw [List.eraseIdx_of_length_le (by simp; omega), List.eraseIdx_of_length_le (by simp; omega)]
      simp only at e ⊢
      rw [e, i_s]
      exact E99_l hS hr hj m (k + 1) (by omega)
    · have hjk : k = j := by
        have := (i_eq (by omega) (by omega)).mp q2
        omega
      subst hjk
      have e : (r.2.take k).eraseIdx k = (r.2.take (k + 1)).eraseIdx k := by
        rw [List.take_succ_eq_append_getElem hkl, List.eraseIdx_append_of_length_le (by simp; omega)]
        simp [List.eraseIdx_of_length_le, Nat.min_eq_left (Nat.le_of_lt hkl)]
      rw [e, i_s]
      exact E99_l hS hr hj m (k + 1) (by omega)
theorem E99 (hS : gk_Sh rr w) {r : Rl} (hr : okR r) {j : Nat} (hj : j < r.2.length) : gk_E (d + 2) 99 [.long (pk r), .int (Int32.ofNat (j + 1))] w (.inl (some (.long (pk (r.1, r.2.eraseIdx j))))) w := gk_E_i rfl rfl (sg_99_0 hS _ _ (by
  rw [f_25_pk hr, f_90_pk hr.1]
  exact E99_l hS hr hj r.2.length 0 (by omega)))
theorem E113_l (hS : gk_Sh rr w) {r : Rl} (hr : okR r) : ∀ (m k : Nat) (o : Option Rl), okO o → k + m = r.2.length → gk_W none (d + 2) 113 7 [none, none, some (.long (pk r)), none, none, some (.long (pko o)), none, some (.int (Int32.ofNat (k + 1)))] [] w (.inl (some (.long (pko ((r.2.drop k).foldl apO o))))) w
  | 0, k, o, ho, hk => by
    have h10 := hr.2.1
    refine sg_113_7 hS _ _ _ ⟨fun _ => ⟨?_, rfl⟩, fun q => absurd (len_t hr (by omega) (by omega)) q⟩
    rw [List.drop_eq_nil_of_le (by omega)]; rfl
  | m + 1, k, o, ho, hk => by
    have h10 := hr.2.1
    have hkl : k < r.2.length := by omega
    have hs := hr.2.2 _ (List.getElem_mem hkl)
    refine sg_113_7 hS _ _ _ ⟨fun q => absurd q (len_f hr (by omega)), fun q => ?_⟩
    rw [f_26_pk hr hkl, f_91_pko ho hs, i_s, List.drop_eq_getElem_cons hkl, List.foldl_cons]
    exact E113_l hS hr m (k + 1) _ (okO_ap ho hs) (by omega)
/-- appendFrom(rule, other, 2) -/
theorem E113 (hS : gk_Sh rr w) {r : Rl} (hr : okR r) (h0 : r.2 ≠ []) {q : Rl} (hq : okR q) : gk_E (d + 2) 113 [.long (pk q), .long (pk r), .int 2] w (.inl (some (.long (pko ((r.2.drop 1).foldl apO (some q)))))) w := gk_E_i rfl rfl (sg_113_0 hS _ _ _ (E113_l hS hr (r.2.length - 1) 1 (some q) (fun _ e => by cases e; exact hq) (by
  have : 0 < r.2.length := List.length_pos_iff.mpr h0
  omega)))
theorem E124_l (hS : gk_Sh rr w) {r : Rl} (hr : okR r) {y : Nat} (hy : y < 2147483648) : ∀ (m k : Nat), k + m = r.2.length → gk_W none (d + 1) 124 2 [some (.long (pk r)), none, some (.int (Int32.ofNat y)), some (.int (Int32.ofNat (k + 1)))] [] w (.inl (some (.int (if y ∈ r.2.drop k then 1 else 0)))) w
  | 0, k, hk => by
    have h10 := hr.2.1
    refine sg_124_2 hS _ _ _ ⟨fun _ => ⟨?_, rfl⟩, fun q => absurd (len_t hr (by omega) (by omega)) q⟩
    rw [List.drop_eq_nil_of_le (by omega)]; rfl
  | m + 1, k, hk => by
    have h10 := hr.2.1
    have hkl : k < r.2.length := by omega
    have hs := hr.2.2 _ (List.getElem_mem hkl)
    refine sg_124_2 hS _ _ _ ⟨fun q => absurd q (len_f hr (by omega)), fun q => ⟨fun q2 => ?_, fun q2 => ⟨?_, rfl⟩⟩⟩
    · rw [f_26_pk hr hkl, i_eq (by omega) hy] at q2
      have := E124_l hS hr hy m (k + 1) (by omega)
      have e : y ∈ r.2.drop k ↔ y ∈ r.2.drop (k + 1) := by
        rw [List.drop_eq_getElem_cons hkl, List.mem_cons]
        exact ⟨fun h => h.resolve_left (fun e => q2 e.symm), Or.inr⟩
      rw [i_s]
      simp only [e]
      exact this
    · rw [f_26_pk hr hkl, i_eq (by omega) hy] at q2
      rw [List.drop_eq_getElem_cons hkl]
      simp [q2]
/-- hasBehindFirst -/
theorem E124 (hS : gk_Sh rr w) {r : Rl} (hr : okR r) {y : Nat} (hy : y < 2147483648) : gk_E (d + 1) 124 [.long (pk r), .int (Int32.ofNat y)] w (.inl (some (.int (if y ∈ r.2.drop 1 then 1 else 0)))) w := gk_E_i rfl rfl (sg_124_0 hS _ _ (by
  by_cases h0 : r.2.length = 0
  · refine sg_124_2 hS _ _ _ ⟨fun _ => ⟨?_, rfl⟩, fun q => absurd (len_t hr (k := 2) (by omega) (by omega)) q⟩
    rw [List.drop_eq_nil_of_le (by omega)]; rfl
  · exact E124_l hS hr hy (r.2.length - 1) 1 (by omega)))
/-- renaming behind the first place -/
def rnB (old new : Nat) (s : List Nat) : List Nat := s.take 1 ++ (s.drop 1).map (fun x => if x = old then new else x)
theorem rnB_len (old new : Nat) (s : List Nat) : (rnB old new s).length = s.length := by
  simp [rnB]; omega
theorem rnB_mem {old new : Nat} {s : List Nat} {x : Nat} (h : x ∈ rnB old new s) : x ∈ s ∨ x = new := by
  unfold rnB at h
  rcases List.mem_append.mp h with h | h
  · exact Or.inl (List.mem_of_mem_take h)
  · obtain ⟨y, hy, rfl⟩ := List.mem_map.mp h
    split
    · exact Or.inr rfl
    · exact Or.inl (List.mem_of_mem_drop hy)
theorem rnB_take (old new : Nat) {s : List Nat} {k : Nat} (hk : k < s.length) : rnB old new (s.take (k + 1)) = rnB old new (s.take k) ++ [if 1 ≤ k ∧ s[k] = old then new else s[k]] := by
  rw [List.take_succ_eq_append_getElem hk]
  unfold rnB
  cases k with
  | zero => simp
  | succ k =>
    rw [List.take_append_of_le_length (by simp; omega), List.drop_append_of_le_length (by simp; omega), List.map_append, ← List.append_assoc]
    simp
theorem rnB_ok {r : Rl} (hr : okR r) {old new : Nat} (hn : new < 22) (k : Nat) : okR (r.1, rnB old new (r.2.take k)) := ⟨hr.1, by rw [rnB_len]; exact Nat.le_trans (List.length_take_le' _ _) hr.2.1, fun x hx => by
  rcases rnB_mem hx with h | h
  · exact hr.2.2 x (List.mem_of_mem_take h)
  · omega⟩
theorem E126_l (hS : gk_Sh rr w) {r : Rl} (hr : okR r) {old new : Nat} (ho : old < 2147483648) (hn : new < 22) : ∀ (m k : Nat), k + m = r.2.length → gk_W none (d + 2) 126 12 [some (.long (pk r)), none, some (.int (Int32.ofNat old)), some (.int (Int32.ofNat new)), some (.long (pk (r.1, rnB old new (r.2.take k)))), none, some (.int (Int32.ofNat (k + 1))), none] [] w (.inl (some (.long (pk (r.1, rnB old new r.2))))) w
  | 0, k, hk => by
    have h10 := hr.2.1
    refine sg_126_12 hS _ _ _ _ _ ⟨fun _ => ⟨?_, rfl⟩, fun q => absurd (len_t hr (by omega) (by omega)) q⟩
    rw [List.take_of_length_le (by omega)]
  | m + 1, k, hk => by
    have h10 := hr.2.1
    have hkl : k < r.2.length := by omega
    have hs := hr.2.2 _ (List.getElem_mem hkl)
    have hlen : (rnB old new (r.2.take k)).length < 10 := by rw [rnB_len]; simp; omega
    have e := rnB_take old new hkl
    have ih := E126_l hS hr ho hn m (k + 1) (by omega)
    rw [e] at ih
    refine sg_126_12 hS _ _ _ _ _ ⟨fun q => absurd q (len_f hr (by omega)), fun q => ⟨fun q2 => ?_, fun q2 => ⟨fun q3 => ?_, fun q3 => ?_⟩⟩⟩
    · have h1 := (i_le (b := 1) (by omega) (by omega)).mp q2
      rw [if_neg (by omega)] at ih
      rw [f_26_pk hr hkl, f_91_pk (rnB_ok hr hn k) hs, if_pos hlen, i_s]
      exact ih
    · have h1 : ¬ k + 1 ≤ 1 := fun q4 => q2 ((i_le (b := 1) (by omega) (by omega)).mpr q4)
      rw [f_26_pk hr hkl, i_eq (by omega) ho] at q3
      rw [if_neg (fun q4 => q3 q4.2)] at ih
      rw [f_26_pk hr hkl, f_91_pk (rnB_ok hr hn k) hs, if_pos hlen, i_s]
      exact ih
    · have h1 : ¬ k + 1 ≤ 1 := fun q4 => q2 ((i_le (b := 1) (by omega) (by omega)).mpr q4)
      rw [f_26_pk hr hkl, i_eq (by omega) ho] at q3
      rw [if_pos ⟨by omega, q3⟩] at ih
      rw [f_91_pk (rnB_ok hr hn k) hn, if_pos hlen, i_s]
      exact ih
theorem E126 (hS : gk_Sh rr w) {r : Rl} (hr : okR r) {old new : Nat} (ho : old < 2147483648) (hn : new < 22) : gk_E (d + 2) 126 [.long (pk r), .int (Int32.ofNat old), .int (Int32.ofNat new)] w (.inl (some (.long (pk (r.1, rnB old new r.2))))) w := gk_E_i rfl rfl (sg_126_0 hS _ _ _ (by
  rw [f_25_pk hr, f_90_pk hr.1]
  exact E126_l hS hr ho hn r.2.length 0 (by omega)))
end LF
