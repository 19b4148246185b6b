/-! part 67: the least derivation -/
def gbB (r : Rl) : Bool := decide (0 < r.2.length ∧ 16 ≤ r.2.headD 0) && (r.2.drop 1).all fun x => decide (x < 16)
theorem gbB_eq {r : Rl} (h : gbB r = true) : ∃ a vs, r.2 = a :: vs ∧ 16 ≤ a ∧ ∀ x ∈ vs, x < 16 := by
  unfold gbB at h
  rw [Bool.and_eq_true] at h
  obtain ⟨h1, h2⟩ := h
  have h3 := of_decide_eq_true h1
  obtain ⟨l, s⟩ := r
  match s, h3, h2 with
  | a :: vs, h3, h2 =>
    refine ⟨a, vs, rfl, h3.2, fun x hx => ?_⟩
    have h4 := List.all_eq_true.mp h2 x hx
    exact of_decide_eq_true h4
theorem row_cons (wd : List Nat) (E : Nat → Nat → Int32) (x : Nat) (s : List Nat) (X : Int32) : row wd E (x :: s) X = row wd E s (rc wd E x X) := rfl
theorem row_app (wd : List Nat) (E : Nat → Nat → Int32) (s t : List Nat) (X : Int32) : row wd E (s ++ t) X = row wd E t (row wd E s X) := by
  unfold row; rw [List.foldl_append]
theorem bp_le {X : Int32} {p : Nat} (hp : p < 32) (h : bt X p = true) : ble (bp p) X := fun c hc => by
  rw [bp_bt hp] at hc
  rw [of_decide_eq_true hc]; exact h
theorem bt_32 {X : Int32} {p : Nat} (h : bt X p = true) : p < 32 := by
  refine Nat.lt_of_not_le fun q => ?_
  rw [bt_big X q] at h; cases h
theorem row_split {wd : List Nat} {E : Nat → Nat → Int32} : ∀ (s : List Nat) {X : Int32} {c : Nat}, bt (row wd E s X) c = true → ∃ b, bt X b = true ∧ bt (row wd E s (bp b)) c = true
  | [], X, c, h => ⟨c, h, by
    show bt (bp c) c = true
    rw [bp_bt (bt_32 h)]; simp⟩
  | x :: s, X, c, h => by
    obtain ⟨b, h1, h2⟩ := row_split s (X := rc wd E x X) h
    obtain ⟨p, q1, q2, q3⟩ := rc_bt.mp h1
    refine ⟨p, q2, ?_⟩
    have h3 : bt (rc wd E x (bp p)) b = true := rc_bt.mpr ⟨p, q1, by rw [bp_bt (bt_32 q2)]; simp, q3⟩
    exact row_mono (tle_refl E) s (bp_le (bt_32 h3) h3) c h2
/-- what is in the least table comes from a rule -/
theorem isE_sup {wd : List Nat} {G : List Rl} {E : Nat → Nat → Int32} (h : isE wd G E) (hb : bnd wd E) {v p c : Nat} (hc : bt (E v p) c = true) : ∃ r ∈ G, r.1 = v ∧ bt (row wd E r.2 (bp p)) c = true := by
  have hT : ∀ (l : List Rl) (x : Int32) (v p c : Nat), bt (l.foldl (fun x r => if r.1 = v then x ||| row wd E r.2 (bp p) else x) x) c = true ↔ bt x c = true ∨ ∃ r ∈ l, r.1 = v ∧ bt (row wd E r.2 (bp p)) c = true := by
    intro l
    induction l with
    | nil => intro x v p c; simp
    | cons r l ih =>
      intro x v p c
      rw [List.foldl_cons, ih]
      by_cases e : r.1 = v
      · rw [if_pos e, bt_or, Bool.or_eq_true]
        constructor
        · rintro ((h | h) | ⟨r', hr', h⟩)
          · exact Or.inl h
          · exact Or.inr ⟨r, List.mem_cons_self, e, h⟩
          · exact Or.inr ⟨r', List.mem_cons_of_mem _ hr', h⟩
        · rintro (h | ⟨r', hr', h⟩)
          · exact Or.inl (Or.inl h)
          · rcases List.mem_cons.mp hr' with rfl | hr'
            · exact Or.inl (Or.inr h.2)
            · exact Or.inr ⟨r', hr', h⟩
      · rw [if_neg e]
        constructor
        · rintro (h | ⟨r', hr', h⟩)
          · exact Or.inl h
          · exact Or.inr ⟨r', List.mem_cons_of_mem _ hr', h⟩
        · rintro (h | ⟨r', hr', h⟩)
          · exact Or.inl h
          · rcases List.mem_cons.mp hr' with rfl | hr'
            · exact absurd h.1 e
            · exact Or.inr ⟨r', hr', h⟩
  let T : Nat → Nat → Int32 := fun v p => if p ≤ wd.length then G.foldl (fun x r => if r.1 = v then x ||| row wd E r.2 (bp p) else x) 0 else 0
  have hTle : tle T E := fun v p c hc => by
    have hc' : bt (if p ≤ wd.length then G.foldl (fun x r => if r.1 = v then x ||| row wd E r.2 (bp p) else x) 0 else 0) c = true := hc
    by_cases hp : p ≤ wd.length
    · rw [if_pos hp, hT] at hc'
      rcases hc' with hc' | ⟨r, hr, rfl, h2⟩
      · rw [bt_zero] at hc'; cases hc'
      · exact h.1 r hr p hp c h2
    · rw [if_neg hp, bt_zero] at hc'; cases hc'
  have hcl : clE wd G T := fun r hr p hp c hc => by
    have h2 := row_mono hTle r.2 (ble_refl (bp p)) c hc
    show bt (if p ≤ wd.length then G.foldl (fun x r' => if r'.1 = r.1 then x ||| row wd E r'.2 (bp p) else x) 0 else 0) c = true
    rw [if_pos hp, hT]
    exact Or.inr ⟨r, hr, rfl, h2⟩
  have h2 := h.2 T hcl v p c hc
  have h3 : bt (if p ≤ wd.length then G.foldl (fun x r => if r.1 = v then x ||| row wd E r.2 (bp p) else x) 0 else 0) c = true := h2
  rw [if_pos (hb v p c hc).2.1, hT] at h3
  rcases h3 with h3 | h3
  · rw [bt_zero] at h3; cases h3
  · exact h3
/-- a letter: the next place, or none -/
theorem rc_letter {wd : List Nat} {E : Nat → Nat → Int32} (hL : wd.length ≤ 10) {a p : Nat} (ha : 16 ≤ a) (hp : p ≤ wd.length) : rc wd E a (bp p) = if wd[p]? = some a then bp (p + 1) else 0 := by
  refine bt_ext fun c _ => ?_
  rw [Bool.eq_iff_iff, rc_bt]
  constructor
  · rintro ⟨q, h1, h2, h3⟩
    rw [bp_bt (by omega)] at h2
    obtain rfl := of_decide_eq_true h2
    unfold el at h3
    rw [if_neg (by omega)] at h3
    by_cases hw : wd[q]? = some a
    · rw [if_pos hw] at h3 ⊢; exact h3
    · rw [if_neg hw, bt_zero] at h3; cases h3
  · intro h
    by_cases hw : wd[p]? = some a
    · rw [if_pos hw] at h
      refine ⟨p, hp, by rw [bp_bt (by omega)]; simp, ?_⟩
      unfold el
      rw [if_neg (by omega), if_pos hw]; exact h
    · rw [if_neg hw, bt_zero] at h; cases h
section DV
variable {wd : List Nat} {G : List Rl} {E : Nat → Nat → Int32}
theorem E_strict (hE : isE wd G E) (hb : bnd wd E) (hL : wd.length ≤ 10) (hG : ∀ r ∈ G, gbB r = true) {v p c : Nat} (hc : bt (E v p) c = true) : p < c := by
  obtain ⟨r, hr, _, h2⟩ := isE_sup hE hb hc
  obtain ⟨a, vs, e, ha, _⟩ := gbB_eq (hG r hr)
  have hp := (hb v p c hc).2.1
  rw [e, row_cons, rc_letter hL ha hp] at h2
  by_cases hw : wd[p]? = some a
  · rw [if_pos hw] at h2
    have hpl := (List.getElem?_eq_some_iff.mp hw).1
    have := (row_bnd hb hL (q := p + 1) vs (bp_bnd hL (by omega)) c h2).1
    omega
  · rw [if_neg hw, row_0, bt_zero] at h2; cases h2
theorem row_len (hst : ∀ v p c, bt (E v p) c = true → p < c) : ∀ (s : List Nat), (∀ x ∈ s, x < 16) → ∀ {X : Int32} {q c : Nat}, (∀ b, bt X b = true → q ≤ b) → bt (row wd E s X) c = true → q + s.length ≤ c
  | [], _, X, q, c, hX, h => by
    have := hX c h
    simp; omega
  | x :: s, hs, X, q, c, hX, h => by
    have := row_len hst s (fun y hy => hs y (List.mem_cons_of_mem _ hy)) (X := rc wd E x X) (q := q + 1) (fun b hb => by
      obtain ⟨p, h1, h2, h3⟩ := rc_bt.mp hb
      unfold el at h3
      rw [if_pos (hs x List.mem_cons_self)] at h3
      have := hst _ _ _ h3
      have := hX p h2
      omega) h
    simp only [List.length_cons]
    omega
/-- a rule for v by which the rest can come -/
def fitB (wd : List Nat) (E : Nat → Nat → Int32) (v : Nat) (rv : List Nat) (p : Nat) (r : Rl) : Bool := decide (r.1 = v) && bt (row wd E rv.reverse (row wd E r.2 (bp p))) wd.length
def chn (wd : List Nat) (E : Nat → Nat → Int32) (G : List Rl) (rv : List Nat) (p : Nat) : Option Nat := fstI (fitB wd E (rv.getLastD 0) rv.dropLast p) G
def rvs (wd : List Nat) (E : Nat → Nat → Int32) (G : List Rl) : Nat → List Nat
  | 0 => [0]
  | n + 1 => (rvs wd E G n).dropLast ++ ((G.getD ((chn wd E G (rvs wd E G n) n).getD 0) (0, [])).2.drop 1).reverse
def stp (wd : List Nat) (E : Nat → Nat → Int32) (G : List Rl) (n : Nat) : Nat := (chn wd E G (rvs wd E G n) n).getD 0
theorem rvs_inv (hE : isE wd G E) (hb : bnd wd E) (hL : wd.length ≤ 10) (hG : ∀ r ∈ G, gbB r = true) (h0 : bt (E 0 0) wd.length = true) : ∀ n, n ≤ wd.length → (∀ x ∈ rvs wd E G n, x < 16) ∧ bt (row wd E (rvs wd E G n).reverse (bp n)) wd.length = true ∧ (rvs wd E G n).length + n ≤ wd.length ∧ (n < wd.length → rvs wd E G n ≠ [] ∧ ∃ i, chn wd E G (rvs wd E G n) n = some i) := by
  have hst : ∀ v p c, bt (E v p) c = true → p < c := fun v p c hc => E_strict hE hb hL hG hc
  have key : ∀ n, n ≤ wd.length → (∀ x ∈ rvs wd E G n, x < 16) → bt (row wd E (rvs wd E G n).reverse (bp n)) wd.length = true → (rvs wd E G n).length + n ≤ wd.length ∧ (n < wd.length → rvs wd E G n ≠ [] ∧ ∃ i, chn wd E G (rvs wd E G n) n = some i) := by
    intro n hn h1 h2
    generalize hrv : rvs wd E G n = rv at h1 h2
    refine ⟨?_, fun hlt => ?_⟩
    · have := row_len (wd := wd) hst rv.reverse (fun x hx => h1 x (List.mem_reverse.mp hx)) (q := n) (fun b hb => by
        rw [bp_bt (by omega)] at hb
        rw [of_decide_eq_true hb]; omega) h2
      rw [List.length_reverse] at this
      omega
    · have hne : rv ≠ [] := by
        intro e
        rw [e] at h2
        have h3 : bt (bp n) wd.length = true := h2
        rw [bp_bt (by omega)] at h3
        have := of_decide_eq_true h3
        omega
      refine ⟨hne, ?_⟩
      have e : rv = rv.dropLast ++ [rv.getLast hne] := (List.dropLast_concat_getLast hne).symm
      have eg : rv.getLastD 0 = rv.getLast hne := by
        rw [List.getLastD_eq_getLast?, List.getLast?_eq_some_getLast hne]; rfl
      rw [e, List.reverse_append, List.reverse_singleton, List.singleton_append, row_cons] at h2
      obtain ⟨q, q1, q2⟩ := row_split _ h2
      obtain ⟨p, p1, p2, p3⟩ := rc_bt.mp q1
      rw [bp_bt (by omega)] at p2
      obtain rfl := of_decide_eq_true p2
      unfold el at p3
      rw [if_pos (h1 _ (List.getLast_mem hne))] at p3
      obtain ⟨r, hr, r1, r2⟩ := isE_sup hE hb p3
      have hfit : fitB wd E (rv.getLastD 0) rv.dropLast p r = true := by
        unfold fitB
        rw [Bool.and_eq_true, eg]
        exact ⟨decide_eq_true r1, row_mono (tle_refl E) _ (bp_le (bt_32 r2) r2) _ q2⟩
      have hany : (fstI (fitB wd E (rv.getLastD 0) rv.dropLast p) G).isSome = true := by
        rw [fstI_any]; exact List.any_eq_true.mpr ⟨r, hr, hfit⟩
      exact Option.isSome_iff_exists.mp hany
  intro n
  induction n with
  | zero =>
    intro hn
    have h1 : ∀ x ∈ rvs wd E G 0, x < 16 := fun x hx => by
      rw [List.mem_singleton.mp hx]; omega
    have h2 : bt (row wd E (rvs wd E G 0).reverse (bp 0)) wd.length = true := by
      show bt (rc wd E 0 (bp 0)) wd.length = true
      refine rc_bt.mpr ⟨0, by omega, by rw [bp_bt (by omega)]; simp, ?_⟩
      unfold el
      rw [if_pos (by omega)]; exact h0
    exact ⟨h1, h2, key 0 hn h1 h2⟩
  | succ n ih =>
    intro hn
    obtain ⟨h1, h2, h3, h4⟩ := ih (by omega)
    obtain ⟨hne, i, hi⟩ := h4 (by omega)
    obtain ⟨hil, hfit⟩ := fstI_some hi
    unfold fitB at hfit
    rw [Bool.and_eq_true] at hfit
    obtain ⟨a, vs, e, ha, hvs⟩ := gbB_eq (hG _ (List.getElem_mem hil))
    have er : rvs wd E G (n + 1) = (rvs wd E G n).dropLast ++ vs.reverse := by
      simp only [rvs, hi, Option.getD_some]
      rw [getD_R hil, e]; rfl
    have h5 := hfit.2
    rw [e, row_cons, rc_letter hL ha (by omega)] at h5
    have h6 : bt (row wd E (rvs wd E G n).dropLast.reverse (row wd E vs (bp (n + 1)))) wd.length = true := by
      by_cases hw : wd[n]? = some a
      · rw [if_pos hw] at h5; exact h5
      · rw [if_neg hw, row_0, row_0, bt_zero] at h5; cases h5
    have g1 : ∀ x ∈ rvs wd E G (n + 1), x < 16 := fun x hx => by
      rw [er] at hx
      rcases List.mem_append.mp hx with hx | hx
      · exact h1 x (List.dropLast_subset _ hx)
      · exact hvs x (List.mem_reverse.mp hx)
    have g2 : bt (row wd E (rvs wd E G (n + 1)).reverse (bp (n + 1))) wd.length = true := by
      rw [er, List.reverse_append, List.reverse_reverse, row_app]; exact h6
    exact ⟨g1, g2, key (n + 1) hn g1 g2⟩
end DV
