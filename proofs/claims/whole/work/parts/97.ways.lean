/-! part 71: in how many ways -/
theorem i64_of {n : Nat} (h : n < 2147483648) : (Int32.ofNat n).toInt64 = Int64.ofNat n := by
  apply Int64.toInt_inj.mp
  rw [Int32.toInt_toInt64, Int32.toInt_ofNat_of_lt h, Int64.toInt_ofNat_of_lt (by omega)]
def cap (x : Nat) : Nat := min x 1000000
theorem cap_le (x : Nat) : cap x ≤ 1000000 := Nat.min_le_right _ _
theorem cap_id {x : Nat} (h : x ≤ 1000000) : cap x = x := Nat.min_eq_left h
theorem capL {x : Nat} (h : x < 9223372036854775808) : (if Int64.ofNat x < 1000000 then Int64.ofNat x else 1000000) = Int64.ofNat (cap x) := by
  have e := l_lt (a := x) (b := 1000000) h (by omega)
  rw [show (1000000 : Int64) = Int64.ofNat 1000000 from rfl]
  unfold cap
  by_cases q : x < 1000000
  · rw [if_pos (e.mpr q), Nat.min_eq_left (by omega)]
  · rw [if_neg (fun p => q (e.mp p)), Nat.min_eq_right (by omega)]
theorem f_211_c {x : Nat} (h : x < 9223372036854775808) : f_211 (Int64.ofNat x) = Int32.ofNat (cap x) := by
  have e := l_lt (a := 1000000) (b := x) (by omega) h
  have e2 : Int64.ofNat x > 1000000 ↔ 1000000 < x := e
  unfold f_211 cap
  by_cases q : x ≤ 1000000
  · have h1 : lg_cmp (Int64.ofNat x) 1000000 ≤ 0 := by
      unfold lg_cmp
      rw [if_neg (fun p => by have := e2.mp p; omega)]
      split <;> decide
    rw [if_pos h1, Int64.toInt32_ofNat', Nat.min_eq_left q]
  · have h1 : ¬ lg_cmp (Int64.ofNat x) 1000000 ≤ 0 := by
      unfold lg_cmp
      rw [if_pos (e2.mpr (by omega))]
      decide
    rw [if_neg h1, Nat.min_eq_right (by omega)]
    rfl
/-- a sum over m places from a on -/
def sK (f : Nat → Nat) (a : Nat) : Nat → Nat
  | 0 => 0
  | m + 1 => sK f a m + f (a + m)
theorem sK_congr {f g : Nat → Nat} {a : Nat} : ∀ {m : Nat}, (∀ t, t < m → f (a + t) = g (a + t)) → sK f a m = sK g a m
  | 0, _ => rfl
  | m + 1, h => by
    simp only [sK]
    rw [sK_congr (fun t ht => h t (by omega)), h m (by omega)]
theorem sK_le {f : Nat → Nat} {a b : Nat} : ∀ {m : Nat}, (∀ t, t < m → f (a + t) ≤ b) → sK f a m ≤ m * b
  | 0, _ => by simp [sK]
  | m + 1, h => by
    simp only [sK]
    have h1 := sK_le (m := m) (fun t ht => h t (by omega))
    have h2 := h m (by omega)
    rw [Nat.add_mul, Nat.one_mul]
    omega
theorem sK_zero {f : Nat → Nat} {a : Nat} : ∀ {m : Nat}, (∀ t, t < m → f (a + t) = 0) → sK f a m = 0
  | 0, _ => rfl
  | m + 1, h => by
    simp only [sK]
    rw [sK_zero (fun t ht => h t (by omega)), h m (by omega)]
abbrev CT : Type := Nat → Nat → Nat → Nat
/-- in how many ways a symbol gives the word between two places -/
def wy (wd : List Nat) (C : CT) (s i j : Nat) : Nat := if s < 16 then C s i j else if j = i + 1 ∧ wd[i]? = some s then 1 else 0
def PM (wd : List Nat) (C : CT) (s : List Nat) (i q : Nat) : Nat → Nat → Nat
  | 0, j => if j = i then 1 else 0
  | k + 1, j => if j ≤ q then cap (sK (fun a => if 2 ≤ s.length ∧ a = i ∧ j = q then 0 else PM wd C s i q k a * wy wd C (s.getD k 0) a j) i (j - i)) else 0
def wr (wd : List Nat) (C : CT) (r : Rl) (i q : Nat) : Nat := PM wd C r.2 i q r.2.length q
def wf (wd : List Nat) (C : CT) (v i q : Nat) (c : Nat) (r : Rl) : Nat := if r.1 = v then cap (c + wr wd C r i q) else c
def cN (wd : List Nat) (G : List Rl) : Nat → CT
  | 0 => fun _ _ _ => 0
  | n + 1 => fun v i j => if j = i + (n + 1) then G.foldl (wf wd (cN wd G n) v i j) 0 else cN wd G n v i j
def Cs (wd : List Nat) (G : List Rl) : CT := cN wd G 11
theorem PM_le (wd : List Nat) (C : CT) (s : List Nat) (i q : Nat) : ∀ k j, PM wd C s i q k j ≤ 1000000
  | 0, j => by simp only [PM]; split <;> omega
  | k + 1, j => by
    simp only [PM]
    split
    · exact cap_le _
    · omega
theorem PM_low (wd : List Nat) (C : CT) (s : List Nat) (i q : Nat) : ∀ k j, j < i + k → PM wd C s i q k j = 0
  | 0, j, h => by simp only [PM]; rw [if_neg (by omega)]
  | k + 1, j, h => by
    simp only [PM]
    split
    · rw [sK_zero (fun t ht => ?_)]
      · rfl
      · rw [PM_low wd C s i q k (i + t) (by omega), Nat.zero_mul]
        split <;> rfl
    · rfl
/-- rules that are neither empty nor units -/
def wOk (r : Rl) : Prop := neB r = true ∧ unB r = false
theorem wOk_letter {r : Rl} (h : wOk r) (h1 : r.2.length = 1) : 16 ≤ r.2.headD 0 := by
  have h2 := h.2
  refine Nat.le_of_not_lt fun q => ?_
  have := (unB_at h1).mpr (by rw [← headD_at (by omega)]; exact q)
  rw [this] at h2; cases h2
theorem PM_congr {wd : List Nat} {C C' : CT} {s : List Nat} {i q : Nat} (hs : 2 ≤ s.length ∨ ∀ x ∈ s, 16 ≤ x) (h : ∀ v a b, v < 16 → i ≤ a → a < b → b ≤ q → ¬ (a = i ∧ b = q) → C v a b = C' v a b) : ∀ k, k ≤ s.length → ∀ j, PM wd C s i q k j = PM wd C' s i q k j
  | 0, _, j => rfl
  | k + 1, hk, j => by
    simp only [PM]
    by_cases hj : j ≤ q
    · rw [if_pos hj, if_pos hj]
      congr 1
      refine sK_congr fun t ht => ?_
      by_cases he : 2 ≤ s.length ∧ i + t = i ∧ j = q
      · rw [if_pos he, if_pos he]
      · rw [if_neg he, if_neg he, PM_congr hs h k (by omega) (i + t)]
        congr 1
        unfold wy
        by_cases h16 : s.getD k 0 < 16
        · rw [if_pos h16, if_pos h16]
          refine h _ _ _ h16 (by omega) (by omega) hj fun e => ?_
          rcases hs with hs | hs
          · exact he ⟨hs, e.1, e.2⟩
          · have hk2 : k < s.length := by omega
            have := hs _ (List.getElem_mem hk2)
            rw [List.getD_eq_getElem?_getD, List.getElem?_eq_getElem hk2] at h16
            simp at h16
            omega
        · rw [if_neg h16, if_neg h16]
    · rw [if_neg hj, if_neg hj]
theorem wOk_s {r : Rl} (h : wOk r) : 2 ≤ r.2.length ∨ ∀ x ∈ r.2, 16 ≤ x := by
  have h0 : ¬ r.2.length = 0 := by
    have := h.1
    unfold neB at this
    simpa using this
  by_cases h1 : r.2.length = 1
  · right
    have hl := wOk_letter h h1
    obtain ⟨l, s⟩ := r
    match s, h1, hl with
    | [x], _, hl =>
      intro y hy
      rw [List.mem_singleton.mp hy]; exact hl
  · left; omega
theorem wr_congr {wd : List Nat} {C C' : CT} {r : Rl} (hr : wOk r) {i q : Nat} (h : ∀ v a b, v < 16 → i ≤ a → a < b → b ≤ q → ¬ (a = i ∧ b = q) → C v a b = C' v a b) : wr wd C r i q = wr wd C' r i q := PM_congr (wOk_s hr) h _ (Nat.le_refl _) q
theorem foldl_congr {α β : Type} {f g : α → β → α} : ∀ {l : List β}, (∀ a b, b ∈ l → f a b = g a b) → ∀ x, l.foldl f x = l.foldl g x
  | [], _, _ => rfl
  | b :: l, h, x => by
    rw [List.foldl_cons, List.foldl_cons, h x b List.mem_cons_self]
    exact foldl_congr (fun a c hc => h a c (List.mem_cons_of_mem _ hc)) _
theorem cN_st {wd : List Nat} {G : List Rl} {v i j : Nat} : ∀ {n m : Nat}, j ≤ i + n → n ≤ m → cN wd G m v i j = cN wd G n v i j
  | n, 0, h, hm => by
    obtain rfl : n = 0 := by omega
    rfl
  | n, m + 1, h, hm => by
    by_cases e : n = m + 1
    · rw [e]
    · simp only [cN]
      rw [if_neg (by omega), cN_st h (by omega)]
/-- the table's own equation -/
theorem Cs_eq {wd : List Nat} {G : List Rl} (hG : ∀ r ∈ G, wOk r) {v i q : Nat} (h1 : i < q) (h2 : q ≤ i + 11) : Cs wd G v i q = G.foldl (wf wd (Cs wd G) v i q) 0 := by
  obtain ⟨n, rfl⟩ : ∃ n, q = i + (n + 1) := ⟨q - i - 1, by omega⟩
  have e1 : Cs wd G v i (i + (n + 1)) = cN wd G (n + 1) v i (i + (n + 1)) := cN_st (by omega) (by omega)
  rw [e1]
  simp only [cN]
  rw [if_pos trivial]
  refine foldl_congr (fun c r hr => ?_) 0
  unfold wf
  by_cases e : r.1 = v
  · rw [if_pos e, if_pos e, wr_congr (hG r hr) (fun v' a b _ ha hab hb hne => ?_)]
    show cN wd G n v' a b = cN wd G 11 v' a b
    exact (cN_st (by omega) (by omega)).symm
  · rw [if_neg e, if_neg e]
theorem wf_le {wd : List Nat} {C : CT} {v i q : Nat} : ∀ (G : List Rl) (c : Nat), c ≤ 1000000 → G.foldl (wf wd C v i q) c ≤ 1000000
  | [], c, h => h
  | r :: G, c, h => by
    rw [List.foldl_cons]
    refine wf_le G _ ?_
    unfold wf
    split
    · exact cap_le _
    · exact h
theorem Cs_le {wd : List Nat} {G : List Rl} (hG : ∀ r ∈ G, wOk r) {v i q : Nat} (h1 : i < q) (h2 : q ≤ i + 11) : Cs wd G v i q ≤ 1000000 := by
  rw [Cs_eq hG h1 h2]; exact wf_le G 0 (by omega)
/-- a table in a row of the world, for the spans in D -/
def TC (w : gk_Wd) (q : Nat) (C : CT) (D : Nat → Nat → Prop) : Prop := ∀ v i j, v < 16 → i < j → j ≤ 10 → D i j → (w_a w q).getD (121 * v + 11 * i + j) 0 = Int32.ofNat (C v i j)
theorem TC_congr {w w' : gk_Wd} {q : Nat} {C : CT} {D : Nat → Nat → Prop} (h : TC w q C D) (e : w_a w' q = w_a w q) : TC w' q C D := fun v i j hv hi hj hD => by rw [e]; exact h v i j hv hi hj hD
theorem wy_le {wd : List Nat} {C : CT} {s i j : Nat} (h : s < 16 → C s i j ≤ 1000000) : wy wd C s i j ≤ 1000000 := by
  unfold wy
  by_cases h16 : s < 16
  · rw [if_pos h16]; exact h h16
  · rw [if_neg h16]; split <;> omega
theorem ix131 (v i j : Nat) : f_131 (Int32.ofNat v) (Int32.ofNat i) (Int32.ofNat j) = Int32.ofNat (121 * v + 11 * i + j) := by
  unfold f_131
  rw [show (11 : Int32) = Int32.ofNat 11 from rfl, i_mul, i_add, i_mul, i_add]
  congr 1; omega
section CWY
variable {d : Nat} {rr : List gk_S} {w : gk_Wd} {wd : List Nat} {C : CT}
/-- waysOfSymbol -/
theorem f_134_W (hW : WC w wd) {s i j : Nat} (hs : s < 22) (hij : i < j) (hj : j ≤ wd.length) (hT : s < 16 → (w_a w 22).getD (121 * s + 11 * i + j) 0 = Int32.ofNat (C s i j)) : f_134 w (Int32.ofNat s) (Int32.ofNat i) (Int32.ofNat j) = Int32.ofNat (wy wd C s i j) := by
  have hL := hW.2.1
  unfold f_134 wy
  by_cases h16 : s < 16
  · rw [if_neg (by rw [f_28_0 (by omega)]; omega), if_pos h16, ix131, i_nat (by omega)]
    exact hT h16
  · rw [if_pos (by rw [f_28_0 (by omega)]; omega), if_neg h16, i_s]
    have e1 : Int32.ofNat j = Int32.ofNat (i + 1) ↔ j = i + 1 := i_eq (by omega) (by omega)
    by_cases h1 : j = i + 1
    · rw [if_neg (fun q => q (e1.mpr h1))]
      have e2 := word_el hL hW.2.2.1 hW.2.2.2 (k := i) (by omega) hs
      by_cases h2 : wd[i]? = some s
      · rw [if_neg (fun q => q (e2.mpr h2)), if_pos ⟨h1, h2⟩]; rfl
      · rw [if_pos (fun q => h2 (e2.mp q)), if_neg (fun q => h2 q.2)]; rfl
    · rw [if_pos (fun q => h1 (e1.mp q)), if_neg (fun q => h1 q.1)]; rfl
/-- waysUpTo -/
theorem E133 (hS : gk_Sh rr w) (hW : WC w wd) {s i j : Nat} (hs : s < 22) (hij : i ≤ j) (hj : j ≤ wd.length) {P : Nat → Nat} (hP : ∀ a, i ≤ a → a < j → (w_l w 23).getD a 0 = Int64.ofNat (P a) ∧ P a ≤ 1000000) (hT : ∀ a, i ≤ a → a < j → P a ≠ 0 → s < 16 → (w_a w 22).getD (121 * s + 11 * a + j) 0 = Int32.ofNat (C s a j)) (hC : ∀ a, i ≤ a → a < j → s < 16 → C s a j ≤ 1000000) : gk_E (d + 2) 133 [.ref 20, .int (Int32.ofNat s), .int (Int32.ofNat i), .int (Int32.ofNat j)] w (.inl (some (.long (Int64.ofNat (cap (sK (fun a => P a * wy wd C s a j) i (j - i))))))) w := by
  have hL := hW.2.1
  have hb : ∀ t, t < j - i → P (i + t) * wy wd C s (i + t) j ≤ 1000000000000 := fun t ht => by
    have h1 := (hP (i + t) (by omega) (by omega)).2
    have h2 := wy_le (wd := wd) (C := C) (s := s) (i := i + t) (j := j) (fun h => hC (i + t) (by omega) (by omega) h)
    calc P (i + t) * wy wd C s (i + t) j ≤ 1000000 * 1000000 := Nat.mul_le_mul h1 h2
      _ = 1000000000000 := rfl
  have hsum : ∀ m, m ≤ j - i → sK (fun a => P a * wy wd C s a j) i m ≤ 10000000000000 := fun m hm => by
    have := sK_le (f := fun a => P a * wy wd C s a j) (a := i) (b := 1000000000000) (m := m) (fun t ht => hb t (by omega))
    have h2 : m * 1000000000000 ≤ 10 * 1000000000000 := Nat.mul_le_mul_right _ (by omega)
    omega
  obtain ⟨-, w1, rfl, g1⟩ := up_loop (α := Unit) (d := d + 2) (mi := 133) (pc := 6) (j - i) (fun t _ => [some (.ref 20), some (.int (Int32.ofNat s)), none, some (.int (Int32.ofNat j)), some (.long (Int64.ofNat (sK (fun a => P a * wy wd C s a j) i t))), none, some (.int (Int32.ofNat (i + t)))])
    (fun t _ w1 => w1 = w)
    (fun t _ w1 ht hI => by
      obtain rfl := hI
      have hle : ¬ Int32.ofNat j ≤ Int32.ofNat (i + t) := fun q => absurd ((i_le (by omega) (by omega)).mp q) (by omega)
      obtain ⟨p1, p2⟩ := hP (i + t) (by omega) (by omega)
      have eP : (w_l w1 23).getD (Int32.ofNat (i + t)).toNatClampNeg 0 = Int64.ofNat (P (i + t)) := by rw [i_nat (by omega)]; exact p1
      have e0 : lg_cmp ((w_l w1 23).getD (Int32.ofNat (i + t)).toNatClampNeg 0) 0 = 0 ↔ P (i + t) = 0 := by
        rw [lg_cmp_eq0, eP]
        constructor
        · intro q
          exact l_inj (b := 0) (by omega) (by omega) q
        · intro q; rw [q]; rfl
      have o11 : gk_out (Int32.ofNat (i + t)) 11 = false := o_ok (by omega) (by omega)
      refine ⟨(), w1, rfl, fun r w' h => sg_133_6 (d := d) hS _ _ _ _ ⟨fun q => absurd q hle, fun _ => ⟨o11, fun q => ?_, fun q => ⟨o11, fun _ _ => o_ok (by omega) (by omega), fun q2 => ?_, ?_⟩⟩⟩⟩
      · rw [e0] at q
        simp only [sK] at h
        rw [q, Nat.zero_mul, Nat.add_zero] at h
        rw [i_s]; exact h
      · rw [f_28_0 (by omega)] at q2
        rw [ix131]; exact o_ok (by omega) (by omega)
      · rw [e0] at q
        have hw := f_134_W (C := C) hW hs (show i + t < j by omega) hj (hT (i + t) (by omega) (by omega) q)
        have hwl := wy_le (wd := wd) (C := C) (s := s) (i := i + t) (j := j) (fun h => hC (i + t) (by omega) (by omega) h)
        rw [eP, hw, i64_of (by omega), ← Int64.ofNat_mul, ← Int64.ofNat_add, i_s]
        exact h) (j - i) 0 () w (by omega) rfl
  refine gk_E_i rfl rfl (sg_133_0 (d := d) hS _ _ _ (g1 _ _ (sg_133_6 (d := d) hS _ _ _ _ ⟨fun _ => ⟨?_, rfl⟩, fun q => absurd ((i_le (by omega) (by omega)).mpr (by omega)) q⟩)))
  rw [capL (by have := hsum (j - i) (Nat.le_refl _); omega)]
/-- waysOfRow -/
theorem E132 (hS : gk_Sh rr w) (hW : WC w wd) {r : Rl} (hr : okR r) (hok : wOk r) {i q : Nat} (hiq : i < q) (hq : q ≤ wd.length) (hT : TC w 22 C (fun a b => i ≤ a ∧ b ≤ q ∧ ¬ (a = i ∧ b = q))) (hC : ∀ v a b, v < 16 → i ≤ a → a < b → b ≤ q → C v a b ≤ 1000000) : ∃ w', gk_E (d + 3) 132 [.ref 20, .long (pk r), .int (Int32.ofNat i), .int (Int32.ofNat q)] w (.inl (some (.long (Int64.ofNat (wr wd C r i q))))) w' ∧ gk_Sh rr w' ∧ Fr [23] [] w w' := by
  have hL := hW.2.1
  have h10 := hr.2.1
  have hn0 : 0 < r.2.length := by
    have := hok.1
    unfold neB at this
    have h2 : ¬ r.2.length = 0 := by simpa using this
    omega
  have ed : Int32.ofNat q - Int32.ofNat i = Int32.ofNat (q - i) := i_sub (by omega)
  have ele : f_24 (pk r) ≤ Int32.ofNat q - Int32.ofNat i ↔ r.2.length ≤ q - i := by
    rw [f_24_pk hr, ed]; exact i_le (by omega) (by omega)
  by_cases hlen : r.2.length ≤ q - i
  · obtain ⟨-, w1, ⟨s1, f1, h1⟩, g1⟩ := up_loop (α := Unit) (d := d + 3) (mi := 132) (pc := 20) (q - i + 1) (fun t _ => [some (.ref 20), some (.long (pk r)), none, some (.int (Int32.ofNat i)), some (.int (Int32.ofNat q)), some (.int (Int32.ofNat r.2.length)), some (.int (Int32.ofNat (i + t))), none, none])
      (fun t _ w1 => gk_Sh rr w1 ∧ Fr [23] [] w w1 ∧ ∀ j, i ≤ j → j < i + t → (w_l w1 23).getD j 0 = Int64.ofNat (PM wd C r.2 i q 0 j))
      (fun t _ w1 ht hI => by
        obtain ⟨s1, f1, h1⟩ := hI
        have hl := (w_lng s1 ly_23).2
        have hle : ¬ Int32.ofNat q < Int32.ofNat (i + t) := fun p => absurd ((i_lt (by omega) (by omega)).mp p) (by omega)
        have o11 : gk_out (Int32.ofNat (i + t)) 11 = false := o_ok (by omega) (by omega)
        have ee : Int32.ofNat (i + t) = Int32.ofNat i ↔ i + t = i := i_eq (by omega) (by omega)
        have key : ∀ x : Int64, x = Int64.ofNat (PM wd C r.2 i q 0 (i + t)) → gk_Sh rr (w_sl w1 23 ((w_l w1 23).set (i + t) x)) ∧ Fr [23] [] w (w_sl w1 23 ((w_l w1 23).set (i + t) x)) ∧ ∀ j, i ≤ j → j < i + (t + 1) → (w_l (w_sl w1 23 ((w_l w1 23).set (i + t) x)) 23).getD j 0 = Int64.ofNat (PM wd C r.2 i q 0 j) := fun x hx => by
          refine ⟨sh_ls s1 ly_23 (i + t) x, Fr_trans f1 (Fr_sl (by simp) _), fun j hj1 hj2 => ?_⟩
          rw [w_l_same s1 ly_23, getD_set64 _ (by omega)]
          by_cases e : j = i + t
          · rw [if_pos e, hx, e]
          · rw [if_neg e]; exact h1 j hj1 (by omega)
        by_cases h0 : i + t = i
        · refine ⟨(), _, key 1 (by simp only [PM]; rw [if_pos h0]; rfl), fun x w' h => sg_132_20 (d := d + 2) s1 _ _ _ _ _ ⟨fun p => absurd p hle, fun _ => ⟨fun p => absurd (ee.mpr h0) p, fun _ => ⟨o11, by rw [i_nat (by omega), i_s]; exact h⟩⟩⟩⟩
        · refine ⟨(), _, key 0 (by simp only [PM]; rw [if_neg h0]; rfl), fun x w' h => sg_132_20 (d := d + 2) s1 _ _ _ _ _ ⟨fun p => absurd p hle, fun _ => ⟨fun _ => ⟨o11, by rw [i_nat (by omega), i_s]; exact h⟩, fun p => absurd (ee.mp p) h0⟩⟩⟩) (q - i + 1) 0 () w (by omega) ⟨hS, Fr_refl, fun j h1 h2 => by omega⟩
    obtain ⟨-, w2, ⟨s2, f2, h2⟩, g2⟩ := up_loop (α := Unit) (d := d + 3) (mi := 132) (pc := 54) r.2.length (fun k _ => [some (.ref 20), some (.long (pk r)), none, some (.int (Int32.ofNat i)), some (.int (Int32.ofNat q)), some (.int (Int32.ofNat r.2.length)), some (.int (Int32.ofNat (k + 1))), none, none])
      (fun k _ w2 => gk_Sh rr w2 ∧ Fr [23] [] w w2 ∧ ∀ j, i ≤ j → j + (r.2.length - k) ≤ q → (w_l w2 23).getD j 0 = Int64.ofNat (PM wd C r.2 i q k j))
      (fun k _ w2 hk hI => by
        obtain ⟨s2, f2, h2⟩ := hI
        have hsy := hr.2.2 _ (List.getElem_mem hk)
        have hle : ¬ Int32.ofNat r.2.length < Int32.ofNat (k + 1) := fun p => absurd ((i_lt (by omega) (by omega)).mp p) (by omega)
        have egd : r.2.getD k 0 = r.2[k] := by rw [List.getD_eq_getElem?_getD, List.getElem?_eq_getElem hk]; rfl
        obtain ⟨-, w3, ⟨ht3, s3, f3, n3, o3⟩, g3⟩ := dn_loop (α := Unit) (d := d + 3) (mi := 132) (pc := 65) (fun t _ => [some (.ref 20), some (.long (pk r)), none, some (.int (Int32.ofNat i)), some (.int (Int32.ofNat q)), some (.int (Int32.ofNat r.2.length)), some (.int (Int32.ofNat (k + 1))), some (.int (Int32.ofNat (i + t) - 1)), none])
          (fun t _ w3 => i + t ≤ q + 1 ∧ gk_Sh rr w3 ∧ Fr [23] [] w w3 ∧ (∀ j, i + t ≤ j → j + (r.2.length - (k + 1)) ≤ q → (w_l w3 23).getD j 0 = Int64.ofNat (PM wd C r.2 i q (k + 1) j)) ∧ ∀ j, i ≤ j → j < i + t → j + (r.2.length - k) ≤ q → (w_l w3 23).getD j 0 = Int64.ofNat (PM wd C r.2 i q k j))
          (fun t _ w3 hI => by
            obtain ⟨ht, s3, f3, n3, o3⟩ := hI
            have hl := (w_lng s3 ly_23).2
            have W3 := WC_Fr hW f3 (by decide) (by simp)
            have e1 : Int32.ofNat (i + (t + 1)) - 1 = Int32.ofNat (i + t) := by rw [show i + (t + 1) = (i + t) + 1 by omega, i_down]
            rw [e1]
            have o11 : gk_out (Int32.ofNat (i + t)) 11 = false := o_ok (by omega) (by omega)
            have hnl : ¬ Int32.ofNat (i + t) < Int32.ofNat i := fun p => absurd ((i_lt (by omega) (by omega)).mp p) (by omega)
            have eroom : Int32.ofNat (i + t) + Int32.ofNat r.2.length - Int32.ofNat (k + 1) = Int32.ofNat (i + t + r.2.length - (k + 1)) := by rw [i_add, i_sub (by omega)]
            have eq2 : Int32.ofNat q < Int32.ofNat (i + t) + Int32.ofNat r.2.length - Int32.ofNat (k + 1) ↔ q < i + t + r.2.length - (k + 1) := by
              rw [eroom]; exact i_lt (by omega) (by omega)
            have key : ∀ x : Int64, (i + t + (r.2.length - (k + 1)) ≤ q → x = Int64.ofNat (PM wd C r.2 i q (k + 1) (i + t))) → i + t ≤ q + 1 ∧ gk_Sh rr (w_sl w3 23 ((w_l w3 23).set (i + t) x)) ∧ Fr [23] [] w (w_sl w3 23 ((w_l w3 23).set (i + t) x)) ∧ (∀ j, i + t ≤ j → j + (r.2.length - (k + 1)) ≤ q → (w_l (w_sl w3 23 ((w_l w3 23).set (i + t) x)) 23).getD j 0 = Int64.ofNat (PM wd C r.2 i q (k + 1) j)) ∧ ∀ j, i ≤ j → j < i + t → j + (r.2.length - k) ≤ q → (w_l (w_sl w3 23 ((w_l w3 23).set (i + t) x)) 23).getD j 0 = Int64.ofNat (PM wd C r.2 i q k j) := fun x hx => by
              refine ⟨by omega, sh_ls s3 ly_23 (i + t) x, Fr_trans f3 (Fr_sl (by simp) _), fun j hj1 hj2 => ?_, fun j hj1 hj2 hj3 => ?_⟩
              · rw [w_l_same s3 ly_23, getD_set64 _ (by omega)]
                by_cases e : j = i + t
                · subst e
                  rw [if_pos rfl]; exact hx hj2
                · rw [if_neg e]; exact n3 j (by omega) hj2
              · rw [w_l_same s3 ly_23, getD_set64 _ (by omega), if_neg (by omega)]
                exact o3 j hj1 (by omega) hj3
            by_cases hroom : i + t + (r.2.length - (k + 1)) ≤ q
            · have e133 := E133 (d := d) (w := w3) (C := C) (s := r.2[k]) (i := i) (j := i + t) s3 W3 hsy (by omega) (by omega) (P := PM wd C r.2 i q k) (fun a ha1 ha2 => ⟨o3 a ha1 (by omega) (by omega), PM_le _ _ _ _ _ _ _⟩) (fun a ha1 ha2 hne h16 => by
                rw [Fr_a f3 (by decide)]
                refine hT _ _ _ h16 ha2 (by omega) ⟨ha1, by omega, fun e => ?_⟩
                have h2l : 2 ≤ r.2.length := by
                  rcases wOk_s hok with q | q
                  · exact q
                  · have := q _ (List.getElem_mem hk); omega
                have hk1 : 1 ≤ k := by omega
                exact hne (by rw [e.1]; exact PM_low _ _ _ _ _ _ _ (by omega))) (fun a ha1 ha2 h16 => hC _ _ _ h16 ha1 ha2 (by omega))
              have eval : cap (sK (fun a => PM wd C r.2 i q k a * wy wd C r.2[k] a (i + t)) i (i + t - i)) = PM wd C r.2 i q (k + 1) (i + t) := by
                simp only [PM]
                rw [if_pos (by omega), egd]
                congr 1
                refine sK_congr fun u hu => ?_
                by_cases he : 2 ≤ r.2.length ∧ i + u = i ∧ i + t = q
                · rw [if_pos he]
                  rw [he.2.1, PM_low _ _ _ _ _ _ _ (show i < i + k by omega), Nat.zero_mul]
                · rw [if_neg he]
              rw [eval] at e133
              refine ⟨(), _, key _ (fun _ => rfl), fun x w' h => sg_132_65 (d := d + 2) s3 _ _ _ _ _ _ ⟨fun p => absurd p hnl, fun _ => ⟨fun p => absurd (eq2.mp p) (by omega), fun _ => ⟨_, by rw [f_26_pk hr hk]; exact e133, o11, by rw [i_nat (by omega), i_m1]; exact h⟩⟩⟩⟩
            · refine ⟨(), _, key 0 (fun p => absurd p hroom), fun x w' h => sg_132_65 (d := d + 2) s3 _ _ _ _ _ _ ⟨fun p => absurd p hnl, fun _ => ⟨fun _ => ⟨o11, by rw [i_nat (by omega), i_m1]; exact h⟩, fun p => absurd (eq2.mpr (by omega)) p⟩⟩⟩) (q - i + 1) () w2 ⟨by omega, s2, f2, fun j hj1 hj2 => by omega, fun j hj1 _ hj3 => h2 j hj1 hj3⟩
        refine ⟨(), w3, ⟨s3, f3, fun j hj1 hj2 => n3 j (by omega) hj2⟩, fun x w' h => sg_132_54 (d := d + 2) s2 _ _ _ _ _ ⟨fun p => absurd p hle, fun _ => ?_⟩⟩
        rw [show i + (q - i + 1) = q + 1 by omega, i_down] at g3
        refine g3 x w' (sg_132_65 (d := d + 2) s3 _ _ _ _ _ _ ⟨fun _ => by rw [i_s]; exact h, fun p => absurd ?_ p⟩)
        show Int32.ofNat (i + 0) - 1 < Int32.ofNat i
        by_cases h0 : i = 0
        · rw [h0]; decide
        · rw [show (1 : Int32) = Int32.ofNat 1 from rfl, i_sub (by omega)]
          exact (i_lt (by omega) (by omega)).mpr (by omega)) r.2.length 0 () w1 (by omega) ⟨s1, f1, fun j hj1 hj2 => h1 j hj1 (by omega)⟩
    have eres : (w_l w2 23).getD (Int32.ofNat q).toNatClampNeg 0 = Int64.ofNat (wr wd C r i q) := by
      rw [i_nat (by omega)]; exact h2 q (by omega) (by omega)
    refine ⟨w2, gk_E_i rfl rfl (sg_132_0 (d := d + 2) hS _ _ _ ⟨fun _ => ?_, fun p => absurd (ele.mpr hlen) p⟩), s2, f2⟩
    rw [f_24_pk hr]
    refine g1 _ _ (sg_132_20 (d := d + 2) s1 _ _ _ _ _ ⟨fun _ => g2 _ _ (sg_132_54 (d := d + 2) s2 _ _ _ _ _ ⟨fun _ => ⟨o_ok (by omega) (by omega), by rw [eres], rfl⟩, fun p => absurd ((i_lt (by omega) (by omega)).mpr (by omega)) p⟩), fun p => absurd ((i_lt (by omega) (by omega)).mpr (by omega)) p⟩)
  · have e0 : wr wd C r i q = 0 := PM_low _ _ _ _ _ _ _ (by omega)
    rw [e0]
    exact ⟨w, gk_E_i rfl rfl (sg_132_0 (d := d + 2) hS _ _ _ ⟨fun p => absurd (ele.mp p) hlen, fun _ => ⟨rfl, rfl⟩⟩), hS, Fr_refl⟩
end CWY
