/-! part 36: the reference's rows -/
/-- row i of the three arrays at l is the rule r -/
def rowM (w : gk_Wd) (l i : Nat) (r : Rl) : Prop := (w_a w l).getD i 0 = Int32.ofNat r.1 ∧ (w_a w (l + 1)).getD i 0 = Int32.ofNat r.2.length ∧ ∀ (k s : Nat), r.2[k]? = some s → (w_a w (l + 2)).getD (10 * i + k) 0 = Int32.ofNat s
def RM (w : gk_Wd) (c l : Nat) (G : List Rl) : Prop := w_i w 26 c = Int32.ofNat G.length ∧ G.length ≤ 60 ∧ (∀ r ∈ G, okR r) ∧ ∀ (i : Nat) (r : Rl), G[i]? = some r → rowM w l i r
theorem ix (i k : Nat) : 10 * Int32.ofNat i + Int32.ofNat k = Int32.ofNat (10 * i + k) := by
  rw [show (10 : Int32) = Int32.ofNat 10 from rfl, i_mul, i_add]
theorem ix_n {i k : Nat} (h : 10 * i + k < 640) : (10 * Int32.ofNat i + Int32.ofNat k).toNatClampNeg = 10 * i + k := by
  rw [ix, i_nat (by omega)]
theorem ix_o {i k : Nat} (h : 10 * i + k < 640) : gk_out (10 * Int32.ofNat i + Int32.ofNat k) 640 = false := by
  rw [ix]; exact o_ok h (by omega)
section MO
variable {d : Nat} {rr : List gk_S} {w : gk_Wd} {G : List Rl} {c l : Nat}
theorem RM_60 (h : RM w c l G) : G.length ≤ 60 := h.2.1
theorem RM_ok (h : RM w c l G) {i : Nat} (hi : i < G.length) : okR G[i] := h.2.2.1 _ (List.getElem_mem hi)
theorem RM_row (h : RM w c l G) {i : Nat} (hi : i < G.length) : rowM w l i G[i] := h.2.2.2 i _ (List.getElem?_eq_getElem hi)
theorem RM_left (h : RM w c l G) {i : Nat} (hi : i < G.length) : (w_a w l).getD (Int32.ofNat i).toNatClampNeg 0 = Int32.ofNat G[i].1 := by
  have := RM_60 h
  rw [i_nat (by omega)]; exact (RM_row h hi).1
theorem RM_size (h : RM w c l G) {i : Nat} (hi : i < G.length) : (w_a w (l + 1)).getD (Int32.ofNat i).toNatClampNeg 0 = Int32.ofNat G[i].2.length := by
  have := RM_60 h
  rw [i_nat (by omega)]; exact (RM_row h hi).2.1
theorem RM_sym (h : RM w c l G) {i k : Nat} (hi : i < G.length) (hk : k < G[i].2.length) : (w_a w (l + 2)).getD (10 * Int32.ofNat i + Int32.ofNat k).toNatClampNeg 0 = Int32.ofNat G[i].2[k] := by
  have h1 := RM_60 h
  have h2 := (RM_ok h hi).2.1
  rw [ix_n (by omega)]
  exact (RM_row h hi).2.2 k _ (List.getElem?_eq_getElem hk)
theorem RM_at (h : RM w 4 28 G) {i k : Nat} (hi : i < G.length) (hk : k < G[i].2.length) : f_151 w (Int32.ofNat i) (Int32.ofNat k) = Int32.ofNat G[i].2[k] := RM_sym h hi hk
theorem RM_le (h : RM w c l G) {i : Nat} (hi : i < 2147483648) : w_i w 26 c ≤ Int32.ofNat i ↔ G.length ≤ i := by
  have := RM_60 h
  rw [h.1]; exact i_le (by omega) hi
theorem RM_out (h : RM w c l G) {i : Nat} (hi : i < G.length) : gk_out (Int32.ofNat i) 64 = false := o_ok (by have := RM_60 h; omega) (by omega)
theorem RM_io (h : RM w c l G) {i k : Nat} (hi : i < G.length) (hk : k < 10) : gk_out (10 * Int32.ofNat i + Int32.ofNat k) 640 = false := ix_o (by have := RM_60 h; omega)
theorem RM_lo (h : RM w c l G) {i : Nat} (hi : i < G.length) : gk_out (Int32.ofNat G[i].1) 16 = false := o_ok (RM_ok h hi).1 (by omega)
theorem RM_sz (h : RM w c l G) {i : Nat} (hi : i < G.length) {k : Nat} (hk : k < 2147483648) : (w_a w (l + 1)).getD (Int32.ofNat i).toNatClampNeg 0 ≤ Int32.ofNat k ↔ G[i].2.length ≤ k := by
  have := (RM_ok h hi).2.1
  rw [RM_size h hi]; exact i_le (by omega) hk
theorem f_163_n {s : Nat} (h : s < 2147483648) : f_163 (Int32.ofNat s) = 0 ↔ 16 ≤ s := f_28_0 h
theorem RM_congr {w' : gk_Wd} (h : RM w c l G) (h1 : w_i w' 26 c = w_i w 26 c) (h2 : w_a w' l = w_a w l) (h3 : w_a w' (l + 1) = w_a w (l + 1)) (h4 : w_a w' (l + 2) = w_a w (l + 2)) : RM w' c l G := ⟨by rw [h1]; exact h.1, h.2.1, h.2.2.1, fun i r hi => by
  have := h.2.2.2 i r hi
  unfold rowM
  rw [h2, h3, h4]; exact this⟩
theorem E152_l (i j : Nat) (hi : i < 64) (hj : j < 64) (hij : i ≠ j) : ∀ (m k : Nat) (w : gk_Wd), gk_Sh rr w → k + m = 10 → ∃ w1, gk_Sh rr w1 ∧ Fr [30] [] w w1 ∧ (∀ n, (w_a w1 30).getD n 0 = if 10 * i + k ≤ n ∧ n < 10 * i + 10 then (w_a w 30).getD (10 * j + (n - 10 * i)) 0 else (w_a w 30).getD n 0) ∧ gk_W none d 152 26 [some (.ref 27), some (.int (Int32.ofNat i)), some (.int (Int32.ofNat j)), some (.int (Int32.ofNat k))] [] w (.inl none) w1
  | 0, k, w, hS, hk => by
    obtain rfl : k = 10 := by omega
    refine ⟨w, hS, Fr_refl, fun n => ?_, sg_152_26 hS _ _ _ ⟨fun _ => ⟨rfl, rfl⟩, fun q => absurd (show (10 : Int32) ≤ Int32.ofNat 10 by decide) q⟩⟩
    rw [if_neg (by omega)]
  | m + 1, k, w, hS, hk => by
    have hl := (w_int hS ly_30).2
    have hS1 := sh_as hS ly_30 (10 * i + k) ((w_a w 30).getD (10 * j + k) 0)
    obtain ⟨w1, s1, f1, h1, g1⟩ := E152_l i j hi hj hij m (k + 1) _ hS1 (by omega)
    refine ⟨w1, s1, Fr_trans (Fr_sa (by decide) _) f1, fun n => ?_, sg_152_26 hS _ _ _ ⟨fun q => absurd ((i_le (a := 10) (by omega) (by omega)).mp q) (by omega), fun _ => ⟨ix_o (by omega), ix_o (by omega), ?_⟩⟩⟩
    · rw [h1 n, w_a_same hS ly_30]
      rw [getD_set32 _ (by omega), getD_set32 _ (by omega)]
      by_cases h2 : 10 * i + (k + 1) ≤ n ∧ n < 10 * i + 10
      · rw [if_pos h2, if_neg (show ¬ 10 * j + (n - 10 * i) = 10 * i + k by omega), if_pos (show 10 * i + k ≤ n ∧ n < 10 * i + 10 by omega)]
      · rw [if_neg h2]
        by_cases h3 : n = 10 * i + k
        · subst h3
          rw [if_pos rfl, if_pos (show 10 * i + k ≤ 10 * i + k ∧ 10 * i + k < 10 * i + 10 by omega)]
          congr 1; omega
        · rw [if_neg h3, if_neg (show ¬ (10 * i + k ≤ n ∧ n < 10 * i + 10) by omega)]
    · rw [ix_n (by omega), ix_n (by omega), i_s]; exact g1
/-- setRule -/
theorem E152 (hS : gk_Sh rr w) {i j : Nat} (hi : i < 64) (hj : j < 64) (hij : i ≠ j) : ∃ w', gk_E d 152 [.ref 27, .int (Int32.ofNat i), .int (Int32.ofNat j)] w (.inl none) w' ∧ gk_Sh rr w' ∧ Fr [28, 29, 30] [] w w' ∧ (∀ r, okR r → rowM w 28 j r → rowM w' 28 i r) ∧ ∀ (m : Nat) (r : Rl), m ≠ i → okR r → rowM w 28 m r → rowM w' 28 m r := by
  have l28 := (w_int hS ly_28).2
  have hS1 := sh_as hS ly_28 i ((w_a w 28).getD j 0)
  have hS2 := sh_as hS1 ly_29 i ((w_a w 29).getD j 0)
  have l29 := (w_int hS ly_29).2
  obtain ⟨w1, s1, f1, h1, g1⟩ := E152_l (d := d) i j hi hj hij 10 0 _ hS2 (by omega)
  have e28 : w_a w1 28 = (w_a w 28).set i ((w_a w 28).getD j 0) := by
    rw [Fr_a f1 (by decide), w_a_ne (by decide), w_a_same hS ly_28]
  have e29 : w_a w1 29 = (w_a w 29).set i ((w_a w 29).getD j 0) := by
    rw [Fr_a f1 (by decide), w_a_same hS1 ly_29, w_a_ne (by decide)]
  have e30 : ∀ n, (w_a w1 30).getD n 0 = if 10 * i ≤ n ∧ n < 10 * i + 10 then (w_a w 30).getD (10 * j + (n - 10 * i)) 0 else (w_a w 30).getD n 0 := by
    intro n
    rw [h1 n, w_a_ne (by decide), w_a_ne (by decide), Nat.add_zero]
  refine ⟨w1, gk_E_i rfl rfl (sg_152_0 hS _ _ ⟨o_ok hj (by omega), o_ok hi (by omega), o_ok hj (by omega), o_ok hi (by omega), ?_⟩), s1, ?_, ?_, ?_⟩
  · rw [i_nat (by omega), i_nat (by omega), w_a_ne (by decide)]
    rw [w_a_ne (by decide)] at g1
    exact g1
  · exact Fr_trans (Fr_sa (by decide) _) (Fr_trans (Fr_sa (by decide) _) (Fr_mono f1 (by simp) (by simp)))
  · intro r hr h
    refine ⟨?_, ?_, fun k s hk => ?_⟩
    · rw [e28, getD_set32 _ (by omega), if_pos rfl]; exact h.1
    · rw [e29, getD_set32 _ (by omega), if_pos rfl]; exact h.2.1
    · have hkl := (List.getElem?_eq_some_iff.mp hk).1
      have := hr.2.1
      rw [e30, if_pos (by omega), show 10 * i + k - 10 * i = k by omega]
      exact h.2.2 k s hk
  · intro m r hm hr h
    refine ⟨?_, ?_, fun k s hk => ?_⟩
    · rw [e28, getD_set32 _ (by omega), if_neg hm]; exact h.1
    · rw [e29, getD_set32 _ (by omega), if_neg hm]; exact h.2.1
    · have hkl := (List.getElem?_eq_some_iff.mp hk).1
      have := hr.2.1
      rw [e30, if_neg (by omega)]
      exact h.2.2 k s hk
theorem E155_l {i : Nat} (hi : i < G.length) (h60 : G.length ≤ 60) (hok : ∀ r ∈ G, okR r) : ∀ (m t : Nat) (w : gk_Wd), gk_Sh rr w → w_i w 26 4 = Int32.ofNat G.length → t + 1 + m = G.length → i ≤ t → (∀ (n : Nat) (r : Rl), (if n < t then (G.eraseIdx i)[n]? else G[n]?) = some r → rowM w 28 n r) → ∃ w1, gk_Sh rr w1 ∧ Fr [28, 29, 30] [(26, 4)] w w1 ∧ RM w1 4 28 (G.eraseIdx i) ∧ gk_W none (d + 1) 155 2 [some (.ref 27), none, some (.int (Int32.ofNat t))] [] w (.inl none) w1
  | 0, t, w, hS, hn, ht, hit, hrow => by
    have hl : (G.eraseIdx i).length = G.length - 1 := List.length_eraseIdx_of_lt hi
    refine ⟨w_si w 26 4 (w_i w 26 4 - 1), sh_si hS ly_26 rfl _, Fr_si (by decide) _, ⟨?_, by omega, fun r hr => hok r (List.mem_of_mem_eraseIdx hr), fun n r hr => ?_⟩, sg_155_2 hS _ ⟨fun _ => ⟨rfl, rfl⟩, fun q => ?_⟩⟩
    · rw [w_i_same hS ly_26 rfl, hn, hl, show (1 : Int32) = Int32.ofNat 1 from rfl, i_sub (by omega)]
    · have h1 := (List.getElem?_eq_some_iff.mp hr).1
      have h2 := hrow n r (by rw [if_pos (by omega)]; exact hr)
      unfold rowM
      rw [w_a_si, w_a_si, w_a_si]; exact h2
    · rw [hn, i_s] at q
      exact absurd ((i_le (by omega) (by omega)).mpr (by omega)) q
  | m + 1, t, w, hS, hn, ht, hit, hrow => by
    obtain ⟨w1, e1, s1, f1, r1, r2⟩ := E152 (d := d) hS (i := t) (j := t + 1) (by omega) (by omega) (by omega)
    have ge : ∀ n, (G.eraseIdx i)[n]? = if n < i then G[n]? else G[n + 1]? := fun n => List.getElem?_eraseIdx
    obtain ⟨w2, s2, f2, R2, g2⟩ := E155_l hi h60 hok m (t + 1) w1 s1 (by rw [Fr_i f1 (by decide), hn]) (by omega) (by omega) (fun n r hr => by
      by_cases hnt : n = t
      · subst hnt
        rw [if_pos (by omega), ge n, if_neg (by omega)] at hr
        exact r1 r (hok r (List.mem_of_getElem? hr)) (hrow (n + 1) r (by rw [if_neg (by omega)]; exact hr))
      · have hr' : (if n < t then (G.eraseIdx i)[n]? else G[n]?) = some r := by
          by_cases h1 : n < t
          · rw [if_pos h1]; rw [if_pos (by omega)] at hr; exact hr
          · rw [if_neg h1]; rw [if_neg (by omega)] at hr; exact hr
        have hokr : okR r := by
          by_cases h1 : n < t
          · rw [if_pos h1] at hr'; exact hok r (List.mem_of_mem_eraseIdx (List.mem_of_getElem? hr'))
          · rw [if_neg h1] at hr'; exact hok r (List.mem_of_getElem? hr')
        exact r2 n r hnt hokr (hrow n r hr'))
    refine ⟨w2, s2, Fr_trans (Fr_mono f1 (by simp) (by simp)) f2, R2, sg_155_2 hS _ ⟨fun q => ?_, fun _ => ⟨w1, by rw [i_s]; exact e1, s1, by rw [i_s]; exact g2⟩⟩⟩
    rw [hn, i_s] at q
    exact absurd ((i_le (by omega) (by omega)).mp q) (by omega)
/-- takeOut -/
theorem E155 (hS : gk_Sh rr w) (hR : RM w 4 28 G) {i : Nat} (hi : i < G.length) : ∃ w', gk_E (d + 1) 155 [.ref 27, .int (Int32.ofNat i)] w (.inl none) w' ∧ gk_Sh rr w' ∧ Fr [28, 29, 30] [(26, 4)] w w' ∧ RM w' 4 28 (G.eraseIdx i) := by
  obtain ⟨w1, s1, f1, R1, g1⟩ := E155_l (d := d) hi hR.2.1 hR.2.2.1 (G.length - 1 - i) i w hS hR.1 (by omega) (Nat.le_refl _) (fun n r hr => by
    by_cases h1 : n < i
    · rw [if_pos h1, List.getElem?_eraseIdx, if_pos h1] at hr; exact hR.2.2.2 n r hr
    · rw [if_neg h1] at hr; exact hR.2.2.2 n r hr)
  exact ⟨w1, gk_E_i rfl rfl (sg_155_0 hS _ g1), s1, f1, R1⟩
end MO
