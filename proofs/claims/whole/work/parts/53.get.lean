/-! part 29: reading behind writing; what a call leaves alone -/
section GS
variable {r : List gk_S} {w w' w'' : gk_Wd} {a b k j t n ci : Nat} {ks : List Nat} {x : Int32} {xs : List Int32} {ys : List Int64}
theorem w_get_si : (w_si w a k x)[b]? = if b = a then (match w[a]? with
    | some (.inl o) => some (.inl (o.1, o.2.set k (.int x)))
    | c => c) else w[b]? := by
  unfold w_si
  split
  · rename_i o ho
    rw [List.getElem?_set]
    by_cases h : b = a
    · subst h
      rw [if_pos rfl, if_pos rfl, if_pos (List.getElem?_eq_some_iff.mp ho).1, ho]
    · rw [if_neg (fun q => h q.symm), if_neg h]
  · rename_i hc
    by_cases h : b = a
    · subst h
      rw [if_pos rfl]
      split
      · rename_i o ho
        exact absurd ho (hc o)
      · rfl
    · rw [if_neg h]
theorem w_get_sa : (w_sa w a xs)[b]? = if b = a then (match w[a]? with
    | some (.inr (.inl o)) => some (.inr (.inl (o.1, xs)))
    | c => c) else w[b]? := by
  unfold w_sa
  split
  · rename_i o ho
    rw [List.getElem?_set]
    by_cases h : b = a
    · subst h
      rw [if_pos rfl, if_pos rfl, if_pos (List.getElem?_eq_some_iff.mp ho).1, ho]
    · rw [if_neg (fun q => h q.symm), if_neg h]
  · rename_i hc
    by_cases h : b = a
    · subst h
      rw [if_pos rfl]
      split
      · rename_i o ho
        exact absurd ho (hc o)
      · rfl
    · rw [if_neg h]
theorem w_get_sl : (w_sl w a ys)[b]? = if b = a then (match w[a]? with
    | some (.inr (.inr _)) => some (.inr (.inr ys))
    | c => c) else w[b]? := by
  unfold w_sl
  split
  · rename_i o ho
    rw [List.getElem?_set]
    by_cases h : b = a
    · subst h
      rw [if_pos rfl, if_pos rfl, if_pos (List.getElem?_eq_some_iff.mp ho).1, ho]
    · rw [if_neg (fun q => h q.symm), if_neg h]
  · rename_i hc
    by_cases h : b = a
    · subst h
      rw [if_pos rfl]
      split
      · rename_i o ho
        exact absurd ho (hc o)
      · rfl
    · rw [if_neg h]
theorem w_i_same (hS : gk_Sh r w) (h : gp_lay[a]? = some (.inl (ci, ks))) (hk : ks[k]? = some 0) : w_i (w_si w a k x) a k = x := by
  obtain ⟨fs, h1, h2, -⟩ := w_fld hS h hk
  unfold w_i
  rw [w_get_si, if_pos rfl, h1]
  simp only [List.getElem?_set_self (List.getElem?_eq_some_iff.mp h2).1]
theorem w_i_ne (h : b ≠ a ∨ j ≠ k) : w_i (w_si w a k x) b j = w_i w b j := by
  unfold w_i
  rw [w_get_si]
  by_cases hb : b = a
  · subst hb
    have hj : j ≠ k := by rcases h with h | h; · exact absurd rfl h
                          · exact h
    rw [if_pos rfl]
    split
    · rename_i o ho
      split at ho
      · rename_i o1 ho1
        cases ho
        rw [ho1]
        simp only [List.getElem?_set_ne (fun q => hj q.symm)]
      · rename_i hc
        rw [ho]
    · rename_i hc
      split
      · rename_i o ho
        simp only [ho] at hc
        exact absurd rfl (hc _)
      · rfl
  · rw [if_neg hb]
theorem w_i_sa : w_i (w_sa w a xs) b j = w_i w b j := by
  unfold w_i
  rw [w_get_sa]
  by_cases hb : b = a
  · subst hb
    rw [if_pos rfl]
    cases hc : w[b]? with
    | none => rfl
    | some c =>
      match c with
      | .inl o => rfl
      | .inr (.inl o) => rfl
      | .inr (.inr o) => rfl
  · rw [if_neg hb]
theorem w_i_sl : w_i (w_sl w a ys) b j = w_i w b j := by
  unfold w_i
  rw [w_get_sl]
  by_cases hb : b = a
  · subst hb
    rw [if_pos rfl]
    cases hc : w[b]? with
    | none => rfl
    | some c =>
      match c with
      | .inl o => rfl
      | .inr (.inl o) => rfl
      | .inr (.inr o) => rfl
  · rw [if_neg hb]
theorem w_a_si : w_a (w_si w a k x) b = w_a w b := by
  unfold w_a
  rw [w_get_si]
  by_cases hb : b = a
  · subst hb
    rw [if_pos rfl]
    cases hc : w[b]? with
    | none => rfl
    | some c =>
      match c with
      | .inl o => rfl
      | .inr (.inl o) => rfl
      | .inr (.inr o) => rfl
  · rw [if_neg hb]
theorem w_a_sl : w_a (w_sl w a ys) b = w_a w b := by
  unfold w_a
  rw [w_get_sl]
  by_cases hb : b = a
  · subst hb
    rw [if_pos rfl]
    cases hc : w[b]? with
    | none => rfl
    | some c =>
      match c with
      | .inl o => rfl
      | .inr (.inl o) => rfl
      | .inr (.inr o) => rfl
  · rw [if_neg hb]
theorem w_a_same (hS : gk_Sh r w) (h : gp_lay[a]? = some (.inr (.inl (t, n)))) : w_a (w_sa w a xs) a = xs := by
  obtain ⟨h1, -⟩ := w_int hS h
  unfold w_a
  rw [w_get_sa, if_pos rfl, h1]
theorem w_a_ne (h : b ≠ a) : w_a (w_sa w a xs) b = w_a w b := by
  unfold w_a
  rw [w_get_sa, if_neg h]
theorem w_l_si : w_l (w_si w a k x) b = w_l w b := by
  unfold w_l
  rw [w_get_si]
  by_cases hb : b = a
  · subst hb
    rw [if_pos rfl]
    cases hc : w[b]? with
    | none => rfl
    | some c =>
      match c with
      | .inl o => rfl
      | .inr (.inl o) => rfl
      | .inr (.inr o) => rfl
  · rw [if_neg hb]
theorem w_l_sa : w_l (w_sa w a xs) b = w_l w b := by
  unfold w_l
  rw [w_get_sa]
  by_cases hb : b = a
  · subst hb
    rw [if_pos rfl]
    cases hc : w[b]? with
    | none => rfl
    | some c =>
      match c with
      | .inl o => rfl
      | .inr (.inl o) => rfl
      | .inr (.inr o) => rfl
  · rw [if_neg hb]
theorem w_l_same (hS : gk_Sh r w) (h : gp_lay[a]? = some (.inr (.inr n))) : w_l (w_sl w a ys) a = ys := by
  obtain ⟨h1, -⟩ := w_lng hS h
  unfold w_l
  rw [w_get_sl, if_pos rfl, h1]
theorem w_l_ne (h : b ≠ a) : w_l (w_sl w a ys) b = w_l w b := by
  unfold w_l
  rw [w_get_sl, if_neg h]
/-- nothing changed but the rows A and the fields F -/
def Fr (A : List Nat) (F : List (Nat × Nat)) (w w' : gk_Wd) : Prop := (∀ a, a ∉ A → w_a w' a = w_a w a ∧ w_l w' a = w_l w a) ∧ ∀ a k, (a, k) ∉ F → w_i w' a k = w_i w a k
variable {A B : List Nat} {F H : List (Nat × Nat)}
theorem Fr_refl : Fr A F w w := ⟨fun _ _ => ⟨rfl, rfl⟩, fun _ _ _ => rfl⟩
theorem Fr_trans (h : Fr A F w w') (h' : Fr A F w' w'') : Fr A F w w'' := ⟨fun a ha => ⟨(h'.1 a ha).1.trans (h.1 a ha).1, (h'.1 a ha).2.trans (h.1 a ha).2⟩, fun a k hk => (h'.2 a k hk).trans (h.2 a k hk)⟩
theorem Fr_mono (h : Fr A F w w') (hA : ∀ a ∈ A, a ∈ B) (hF : ∀ q ∈ F, q ∈ H) : Fr B H w w' := ⟨fun a ha => h.1 a fun q => ha (hA a q), fun a k hk => h.2 a k fun q => hk (hF _ q)⟩
theorem Fr_si (h : (a, k) ∈ F) (x : Int32) : Fr A F w (w_si w a k x) := ⟨fun _ _ => ⟨w_a_si, w_l_si⟩, fun b j hj => w_i_ne (by
  by_cases hb : b = a
  · by_cases hk : j = k
    · subst hb; subst hk; exact absurd h hj
    · exact Or.inr hk
  · exact Or.inl hb)⟩
theorem Fr_sa (h : a ∈ A) (xs : List Int32) : Fr A F w (w_sa w a xs) := ⟨fun b hb => ⟨w_a_ne (fun q => hb (q ▸ h)), w_l_sa⟩, fun _ _ _ => w_i_sa⟩
theorem Fr_sl (h : a ∈ A) (ys : List Int64) : Fr A F w (w_sl w a ys) := ⟨fun b hb => ⟨w_a_sl, w_l_ne (fun q => hb (q ▸ h))⟩, fun _ _ _ => w_i_sl⟩
theorem Fr_i (h : Fr A F w w') (hk : (a, k) ∉ F) : w_i w' a k = w_i w a k := h.2 a k hk
theorem Fr_a (h : Fr A F w w') (hk : a ∉ A) : w_a w' a = w_a w a := (h.1 a hk).1
theorem Fr_l (h : Fr A F w w') (hk : a ∉ A) : w_l w' a = w_l w a := (h.1 a hk).2
end GS
