/-! part 84: every turn; the law for every script -/
section LA
variable {xs : List Int32} {rr r1 : List gk_S} {w w' w1 w2 : gk_Wd} {x4 : Int32}
theorem p_and (a : Int32) : a &&& 31 = 0 ∨ a &&& 31 = 1 ∨ a &&& 31 = 2 ∨ a &&& 31 = 3 ∨ a &&& 31 = 4 ∨ a &&& 31 = 5 ∨ a &&& 31 = 6 ∨ a &&& 31 = 7 ∨ a &&& 31 = 8 ∨ a &&& 31 = 9 ∨ a &&& 31 = 10 ∨ a &&& 31 = 11 ∨ a &&& 31 = 12 ∨ a &&& 31 = 13 ∨ a &&& 31 = 14 ∨ a &&& 31 = 15 ∨ a &&& 31 = 16 ∨ a &&& 31 = 17 ∨ a &&& 31 = 18 ∨ a &&& 31 = 19 ∨ a &&& 31 = 20 ∨ a &&& 31 = 21 ∨ a &&& 31 = 22 ∨ a &&& 31 = 23 ∨ a &&& 31 = 24 ∨ a &&& 31 = 25 ∨ a &&& 31 = 26 ∨ a &&& 31 = 27 ∨ a &&& 31 = 28 ∨ a &&& 31 = 29 ∨ a &&& 31 = 30 ∨ a &&& 31 = 31 := by
  have hn : (a &&& 31).toInt = ((a &&& 31).toBitVec.toNat : Int) := by
    show BitVec.toInt _ = _
    rw [BitVec.toInt_eq_toNat_of_lt]
    show 2 * (a.toBitVec &&& (31 : Int32).toBitVec).toNat < 2 ^ 32
    rw [BitVec.toNat_and]
    have := Nat.and_le_right (n := a.toBitVec.toNat) (m := (31 : Int32).toBitVec.toNat)
    have h31 : (31 : Int32).toBitVec.toNat = 31 := rfl
    omega
  have hb : (a &&& 31).toBitVec.toNat ≤ 31 := by
    show (a.toBitVec &&& (31 : Int32).toBitVec).toNat ≤ 31
    rw [BitVec.toNat_and]
    exact Nat.and_le_right
  have a3 : (a &&& 31).toInt = 0 ∨ (a &&& 31).toInt = 1 ∨ (a &&& 31).toInt = 2 ∨ (a &&& 31).toInt = 3 ∨ (a &&& 31).toInt = 4 ∨ (a &&& 31).toInt = 5 ∨ (a &&& 31).toInt = 6 ∨ (a &&& 31).toInt = 7 ∨ (a &&& 31).toInt = 8 ∨ (a &&& 31).toInt = 9 ∨ (a &&& 31).toInt = 10 ∨ (a &&& 31).toInt = 11 ∨ (a &&& 31).toInt = 12 ∨ (a &&& 31).toInt = 13 ∨ (a &&& 31).toInt = 14 ∨ (a &&& 31).toInt = 15 ∨ (a &&& 31).toInt = 16 ∨ (a &&& 31).toInt = 17 ∨ (a &&& 31).toInt = 18 ∨ (a &&& 31).toInt = 19 ∨ (a &&& 31).toInt = 20 ∨ (a &&& 31).toInt = 21 ∨ (a &&& 31).toInt = 22 ∨ (a &&& 31).toInt = 23 ∨ (a &&& 31).toInt = 24 ∨ (a &&& 31).toInt = 25 ∨ (a &&& 31).toInt = 26 ∨ (a &&& 31).toInt = 27 ∨ (a &&& 31).toInt = 28 ∨ (a &&& 31).toInt = 29 ∨ (a &&& 31).toInt = 30 ∨ (a &&& 31).toInt = 31 := by omega
  rcases a3 with h | h | h | h | h | h | h | h | h | h | h | h | h | h | h | h | h | h | h | h | h | h | h | h | h | h | h | h | h | h | h | h
  · exact Or.inl (Int32.toInt_inj.mp h)
  · exact Or.inr (Or.inl (Int32.toInt_inj.mp h))
  · exact Or.inr (Or.inr (Or.inl (Int32.toInt_inj.mp h)))
  · exact Or.inr (Or.inr (Or.inr (Or.inl (Int32.toInt_inj.mp h))))
  · exact Or.inr (Or.inr (Or.inr (Or.inr (Or.inl (Int32.toInt_inj.mp h)))))
  · exact Or.inr (Or.inr (Or.inr (Or.inr (Or.inr (Or.inl (Int32.toInt_inj.mp h))))))
  · exact Or.inr (Or.inr (Or.inr (Or.inr (Or.inr (Or.inr (Or.inl (Int32.toInt_inj.mp h)))))))
  · exact Or.inr (Or.inr (Or.inr (Or.inr (Or.inr (Or.inr (Or.inr (Or.inl (Int32.toInt_inj.mp h))))))))
  · exact Or.inr (Or.inr (Or.inr (Or.inr (Or.inr (Or.inr (Or.inr (Or.inr (Or.inl (Int32.toInt_inj.mp h)))))))))
  · exact Or.inr (Or.inr (Or.inr (Or.inr (Or.inr (Or.inr (Or.inr (Or.inr (Or.inr (Or.inl (Int32.toInt_inj.mp h))))))))))
  · exact Or.inr (Or.inr (Or.inr (Or.inr (Or.inr (Or.inr (Or.inr (Or.inr (Or.inr (Or.inr (Or.inl (Int32.toInt_inj.mp h)))))))))))
  · exact Or.inr (Or.inr (Or.inr (Or.inr (Or.inr (Or.inr (Or.inr (Or.inr (Or.inr (Or.inr (Or.inr (Or.inl (Int32.toInt_inj.mp h))))))))))))
  · exact Or.inr (Or.inr (Or.inr (Or.inr (Or.inr (Or.inr (Or.inr (Or.inr (Or.inr (Or.inr (Or.inr (Or.inr (Or.inl (Int32.toInt_inj.mp h)))))))))))))
  · exact Or.inr (Or.inr (Or.inr (Or.inr (Or.inr (Or.inr (Or.inr (Or.inr (Or.inr (Or.inr (Or.inr (Or.inr (Or.inr (Or.inl (Int32.toInt_inj.mp h))))))))))))))
  · exact Or.inr (Or.inr (Or.inr (Or.inr (Or.inr (Or.inr (Or.inr (Or.inr (Or.inr (Or.inr (Or.inr (Or.inr (Or.inr (Or.inr (Or.inl (Int32.toInt_inj.mp h)))))))))))))))
  · exact Or.inr (Or.inr (Or.inr (Or.inr (Or.inr (Or.inr (Or.inr (Or.inr (Or.inr (Or.inr (Or.inr (Or.inr (Or.inr (Or.inr (Or.inr (Or.inl (Int32.toInt_inj.mp h))))))))))))))))
  · exact Or.inr (Or.inr (Or.inr (Or.inr (Or.inr (Or.inr (Or.inr (Or.inr (Or.inr (Or.inr (Or.inr (Or.inr (Or.inr (Or.inr (Or.inr (Or.inr (Or.inl (Int32.toInt_inj.mp h)))))))))))))))))
  · exact Or.inr (Or.inr (Or.inr (Or.inr (Or.inr (Or.inr (Or.inr (Or.inr (Or.inr (Or.inr (Or.inr (Or.inr (Or.inr (Or.inr (Or.inr (Or.inr (Or.inr (Or.inl (Int32.toInt_inj.mp h))))))))))))))))))
  · exact Or.inr (Or.inr (Or.inr (Or.inr (Or.inr (Or.inr (Or.inr (Or.inr (Or.inr (Or.inr (Or.inr (Or.inr (Or.inr (Or.inr (Or.inr (Or.inr (Or.inr (Or.inr (Or.inl (Int32.toInt_inj.mp h)))))))))))))))))))
  · exact Or.inr (Or.inr (Or.inr (Or.inr (Or.inr (Or.inr (Or.inr (Or.inr (Or.inr (Or.inr (Or.inr (Or.inr (Or.inr (Or.inr (Or.inr (Or.inr (Or.inr (Or.inr (Or.inr (Or.inl (Int32.toInt_inj.mp h))))))))))))))))))))
  · exact Or.inr (Or.inr (Or.inr (Or.inr (Or.inr (Or.inr (Or.inr (Or.inr (Or.inr (Or.inr (Or.inr (Or.inr (Or.inr (Or.inr (Or.inr (Or.inr (Or.inr (Or.inr (Or.inr (Or.inr (Or.inl (Int32.toInt_inj.mp h)))))))))))))))))))))
  · exact Or.inr (Or.inr (Or.inr (Or.inr (Or.inr (Or.inr (Or.inr (Or.inr (Or.inr (Or.inr (Or.inr (Or.inr (Or.inr (Or.inr (Or.inr (Or.inr (Or.inr (Or.inr (Or.inr (Or.inr (Or.inr (Or.inl (Int32.toInt_inj.mp h))))))))))))))))))))))
  · exact Or.inr (Or.inr (Or.inr (Or.inr (Or.inr (Or.inr (Or.inr (Or.inr (Or.inr (Or.inr (Or.inr (Or.inr (Or.inr (Or.inr (Or.inr (Or.inr (Or.inr (Or.inr (Or.inr (Or.inr (Or.inr (Or.inr (Or.inl (Int32.toInt_inj.mp h)))))))))))))))))))))))
  · exact Or.inr (Or.inr (Or.inr (Or.inr (Or.inr (Or.inr (Or.inr (Or.inr (Or.inr (Or.inr (Or.inr (Or.inr (Or.inr (Or.inr (Or.inr (Or.inr (Or.inr (Or.inr (Or.inr (Or.inr (Or.inr (Or.inr (Or.inr (Or.inl (Int32.toInt_inj.mp h))))))))))))))))))))))))
  · exact Or.inr (Or.inr (Or.inr (Or.inr (Or.inr (Or.inr (Or.inr (Or.inr (Or.inr (Or.inr (Or.inr (Or.inr (Or.inr (Or.inr (Or.inr (Or.inr (Or.inr (Or.inr (Or.inr (Or.inr (Or.inr (Or.inr (Or.inr (Or.inr (Or.inl (Int32.toInt_inj.mp h)))))))))))))))))))))))))
  · exact Or.inr (Or.inr (Or.inr (Or.inr (Or.inr (Or.inr (Or.inr (Or.inr (Or.inr (Or.inr (Or.inr (Or.inr (Or.inr (Or.inr (Or.inr (Or.inr (Or.inr (Or.inr (Or.inr (Or.inr (Or.inr (Or.inr (Or.inr (Or.inr (Or.inr (Or.inl (Int32.toInt_inj.mp h))))))))))))))))))))))))))
  · exact Or.inr (Or.inr (Or.inr (Or.inr (Or.inr (Or.inr (Or.inr (Or.inr (Or.inr (Or.inr (Or.inr (Or.inr (Or.inr (Or.inr (Or.inr (Or.inr (Or.inr (Or.inr (Or.inr (Or.inr (Or.inr (Or.inr (Or.inr (Or.inr (Or.inr (Or.inr (Or.inl (Int32.toInt_inj.mp h)))))))))))))))))))))))))))
  · exact Or.inr (Or.inr (Or.inr (Or.inr (Or.inr (Or.inr (Or.inr (Or.inr (Or.inr (Or.inr (Or.inr (Or.inr (Or.inr (Or.inr (Or.inr (Or.inr (Or.inr (Or.inr (Or.inr (Or.inr (Or.inr (Or.inr (Or.inr (Or.inr (Or.inr (Or.inr (Or.inr (Or.inl (Int32.toInt_inj.mp h))))))))))))))))))))))))))))
  · exact Or.inr (Or.inr (Or.inr (Or.inr (Or.inr (Or.inr (Or.inr (Or.inr (Or.inr (Or.inr (Or.inr (Or.inr (Or.inr (Or.inr (Or.inr (Or.inr (Or.inr (Or.inr (Or.inr (Or.inr (Or.inr (Or.inr (Or.inr (Or.inr (Or.inr (Or.inr (Or.inr (Or.inr (Or.inl (Int32.toInt_inj.mp h)))))))))))))))))))))))))))))
  · exact Or.inr (Or.inr (Or.inr (Or.inr (Or.inr (Or.inr (Or.inr (Or.inr (Or.inr (Or.inr (Or.inr (Or.inr (Or.inr (Or.inr (Or.inr (Or.inr (Or.inr (Or.inr (Or.inr (Or.inr (Or.inr (Or.inr (Or.inr (Or.inr (Or.inr (Or.inr (Or.inr (Or.inr (Or.inr (Or.inl (Int32.toInt_inj.mp h))))))))))))))))))))))))))))))
  · exact Or.inr (Or.inr (Or.inr (Or.inr (Or.inr (Or.inr (Or.inr (Or.inr (Or.inr (Or.inr (Or.inr (Or.inr (Or.inr (Or.inr (Or.inr (Or.inr (Or.inr (Or.inr (Or.inr (Or.inr (Or.inr (Or.inr (Or.inr (Or.inr (Or.inr (Or.inr (Or.inr (Or.inr (Or.inr (Or.inr (Or.inl (Int32.toInt_inj.mp h)))))))))))))))))))))))))))))))
  · exact Or.inr (Or.inr (Or.inr (Or.inr (Or.inr (Or.inr (Or.inr (Or.inr (Or.inr (Or.inr (Or.inr (Or.inr (Or.inr (Or.inr (Or.inr (Or.inr (Or.inr (Or.inr (Or.inr (Or.inr (Or.inr (Or.inr (Or.inr (Or.inr (Or.inr (Or.inr (Or.inr (Or.inr (Or.inr (Or.inr (Or.inr (Int32.toInt_inj.mp h)))))))))))))))))))))))))))))))
theorem t_all (hS : gk_Sh rr w) (hI : Inv w) (hn : ¬ ((Int32.ofNat xs.length) - 3) < x4) (o0 : gk_out x4 xs.length = false) (o1 : gk_out (x4 + 1) xs.length = false) (o2 : gk_out (x4 + 2) xs.length = false) : Tn xs rr w x4 := by
  rcases p_and (xs.getD x4.toNatClampNeg 0) with h | h | h | h | h | h | h | h | h | h | h | h | h | h | h | h | h | h | h | h | h | h | h | h | h | h | h | h | h | h | h | h
  · exact t_0 hS hI hn h o0 o1
  · exact t_1 hS hI hn h o0
  · exact t_2 hS hI hn h o0
  · exact t_3 hS hI hn h o0 o1
  · exact t_4 hS hI hn h o0
  · exact t_5 hS hI hn h o0
  · exact t_6 hS hI hn h o0 o1 o2
  · exact t_7 hS hI hn h o0
  · exact t_8 hS hI hn h o0
  · exact t_9 hS hI hn h o0
  · exact t_10 hS hI hn h o0
  · exact t_11 hS hI hn h o0
  · exact t_12 hS hI hn h o0 o1
  · exact t_13 hS hI hn h o0 o1
  · exact t_14 hS hI hn h o0 o1
  · exact t_15 hS hI hn h o0
  · exact t_16 hS hI hn h o0 o1
  · exact t_17 hS hI hn h o0
  · exact t_18 hS hI hn h o0
  · exact t_19 hS hI hn h o0
  · exact t_20 hS hI hn h o0
  · exact t_21 hS hI hn h o0 o1
  · exact ⟨w, rr, hS, hI, Or.inl rfl, fun r w1 g => lw_op22 hS x4 hn h ⟨o0, g⟩⟩
  · exact ⟨w, rr, hS, hI, Or.inl rfl, fun r w1 g => lw_op23 hS x4 hn h ⟨o0, g⟩⟩
  · exact ⟨w, rr, hS, hI, Or.inl rfl, fun r w1 g => lw_op24 hS x4 hn h ⟨o0, g⟩⟩
  · exact ⟨w, rr, hS, hI, Or.inl rfl, fun r w1 g => lw_op25 hS x4 hn h ⟨o0, g⟩⟩
  · exact ⟨w, rr, hS, hI, Or.inl rfl, fun r w1 g => lw_op26 hS x4 hn h ⟨o0, g⟩⟩
  · exact ⟨w, rr, hS, hI, Or.inl rfl, fun r w1 g => lw_op27 hS x4 hn h ⟨o0, g⟩⟩
  · exact ⟨w, rr, hS, hI, Or.inl rfl, fun r w1 g => lw_op28 hS x4 hn h ⟨o0, g⟩⟩
  · exact ⟨w, rr, hS, hI, Or.inl rfl, fun r w1 g => lw_op29 hS x4 hn h ⟨o0, g⟩⟩
  · exact ⟨w, rr, hS, hI, Or.inl rfl, fun r w1 g => lw_op30 hS x4 hn h ⟨o0, g⟩⟩
  · exact ⟨w, rr, hS, hI, Or.inl rfl, fun r w1 g => lw_op31 hS x4 hn h ⟨o0, g⟩⟩
def gk_css (s : gk_S) : Nat := match s with
  | .inl o => gp_nsl o.1
  | .inr (.inl a) => a.2
  | .inr (.inr n) => n
theorem gk_css_eq (c : gk_AC) : gk_cs gp_nsl c = gk_css (gk_shp c) := by
  match c with
  | .inl o => rfl
  | .inr (.inl a) => rfl
  | .inr (.inr a) => rfl
theorem gk_Sh_room (hS : gk_Sh rr w) : w.length = 55 + rr.length ∧ gk_sl gp_nsl w = (gp_lay.map gk_css).sum + (rr.map gk_css).sum := by
  constructor
  · have := congrArg List.length hS
    rw [List.length_map, List.length_append] at this
    exact this
  · have e : w.map (gk_cs gp_nsl) = (w.map gk_shp).map gk_css := by
      rw [List.map_map]
      exact List.map_congr_left (fun c _ => gk_css_eq c)
    unfold gk_sl
    rw [e, hS, List.map_append, List.sum_append]
theorem gp_lay_sum : (gp_lay.map gk_css).sum ≤ 10000 := by decide +kernel
def gp_Sm (rr : List gk_S) (i : Nat) : Prop := rr.length ≤ i ∧ ∀ s ∈ rr, gk_css s ≤ 6
theorem css_sum : ∀ {rr : List gk_S}, (∀ s ∈ rr, gk_css s ≤ 6) → (rr.map gk_css).sum ≤ 6 * rr.length
  | [], _ => by simp
  | s :: rr, h => by
    have h1 := h s List.mem_cons_self
    have h2 := css_sum (fun t ht => h t (List.mem_cons_of_mem _ ht))
    simp only [List.map_cons, List.sum_cons, List.length_cons]
    omega
theorem Sm_ex {i : Nat} (h : gp_Sm rr i) (he : Ex r1 rr) : gp_Sm r1 (i + 1) := by
  rcases he with rfl | ⟨ci, hci, rfl⟩
  · exact ⟨Nat.le_succ_of_le h.1, h.2⟩
  · refine ⟨by have := h.1; simp; omega, fun s hs => ?_⟩
    rcases List.mem_append.mp hs with hs | hs
    · exact h.2 s hs
    · obtain rfl := List.mem_singleton.mp hs
      rcases hci with rfl | rfl | rfl <;> decide
theorem out_t {i : Nat} (hl : xs.length ≤ 1536) (h : xs.length < 3 * i + 3) (hi : 3 * i < 2147483648) : ((Int32.ofNat xs.length) - 3) < Int32.ofNat (3 * i) := by
  by_cases h3 : 3 ≤ xs.length
  · rw [show (3 : Int32) = Int32.ofNat 3 from rfl, i_sub h3, i_lt (by omega) hi]
    omega
  · have hz : ¬ Int32.ofNat (3 * i) < 0 := i_neg hi
    have h0 : (0 : Int32) ≤ Int32.ofNat (3 * i) := (i_le (a := 0) (by omega) hi).mpr (Nat.zero_le _)
    have h1 : ((Int32.ofNat xs.length) - 3) < 0 := by
      generalize xs.length = n at h3
      rcases (show n = 0 ∨ n = 1 ∨ n = 2 by omega) with rfl | rfl | rfl <;> decide
    exact Int32.lt_of_lt_of_le h1 h0
theorem law_l (hl : xs.length ≤ 1536) : ∀ (m i : Nat) (rr : List gk_S) (w : gk_Wd), gk_Sh rr w → Inv w → gp_Sm rr i → i + m = 512 → ∃ (r2 : List gk_S) (w2 : gk_Wd), gk_Sh r2 w2 ∧ gp_Sm r2 512 ∧ gk_W (some xs) 8 0 23 [some (.ref 0), some (.ref 1), some (.ref 27), some (.ref 55), some (.int (Int32.ofNat (3 * i))), none, none] [] w (.inl (some (.int 1))) w2
  | 0, i, rr, w, hS, hI, hm, hi => by
    obtain rfl : i = 512 := by omega
    exact ⟨rr, w, hS, hm, lw_end hS _ (out_t hl (by omega) (by omega)) ⟨rfl, rfl⟩⟩
  | m + 1, i, rr, w, hS, hI, hm, hi => by
    by_cases h : xs.length < 3 * i + 3
    · exact ⟨rr, w, hS, ⟨by have := hm.1; omega, hm.2⟩, lw_end hS _ (out_t hl h (by omega)) ⟨rfl, rfl⟩⟩
    · have hn : ¬ ((Int32.ofNat xs.length) - 3) < Int32.ofNat (3 * i) := by
        rw [show (3 : Int32) = Int32.ofNat 3 from rfl, i_sub (by omega), i_lt (by omega) (by omega)]
        omega
      have o1 : gk_out (Int32.ofNat (3 * i) + 1) xs.length = false := by rw [i_s]; exact o_ok (by omega) (by omega)
      have o2 : gk_out (Int32.ofNat (3 * i) + 2) xs.length = false := by rw [show (2 : Int32) = Int32.ofNat 2 from rfl, i_add]; exact o_ok (by omega) (by omega)
      obtain ⟨w1, r1, s1, I1, x1, g1⟩ := t_all hS hI hn (o_ok (by omega) (by omega)) o1 o2
      obtain ⟨r2, w2, s2, m2, g2⟩ := law_l hl m (i + 1) r1 w1 s1 I1 (Sm_ex hm x1) (by omega)
      refine ⟨r2, w2, s2, m2, g1 _ _ ?_⟩
      rw [show (3 : Int32) = Int32.ofNat 3 from rfl, i_add, show 3 * i + 3 = 3 * (i + 1) by omega]
      exact g2
theorem inv0 : Inv gp_w0 := by
  have a1 : w_i gp_w0 3 1 = 0 := by decide +kernel
  have a2 : w_i gp_w0 1 1 = 0 := by decide +kernel
  have a3 : w_i gp_w0 19 1 = 0 := by decide +kernel
  have a4 : w_i gp_w0 19 6 = 0 := by decide +kernel
  have b1 : w_i gp_w0 26 4 = 0 := by decide +kernel
  have b2 : w_i gp_w0 26 1 = 0 := by decide +kernel
  have b3 : w_i gp_w0 26 24 = 0 := by decide +kernel
  have b4 : w_i gp_w0 26 28 = 0 := by decide +kernel
  have b5 : w_i gp_w0 26 3 = w_i gp_w0 0 8 := by decide +kernel
  exact ⟨[], [], w_i gp_w0 0 8, [], [], ⟨⟨a1, by simp, by simp, by simp⟩, List.Pairwise.nil, LQ_nil a2, rfl, ⟨a3, by simp, by simp, by simp⟩, LQ_nil a4⟩, ⟨⟨b1, by simp, by simp, by simp⟩, LQ_nil b2, b5, ⟨b3, by simp, by simp, by simp⟩, LQ_nil b4⟩⟩
theorem gp_law_all : gp_Law gp_N := by
  intro xs hl
  have hl : xs.length ≤ 1536 := hl
  obtain ⟨rr, w, hS, hm, hW⟩ := law_l hl 512 0 [] gp_w0 gp_w0_sh inv0 ⟨Nat.le_refl _, by simp⟩ (by omega)
  obtain ⟨n, hn⟩ := gp_pre hW
  obtain ⟨h1, h2⟩ := gk_Sh_room hS
  have h3 := gp_lay_sum
  have h4 := hm.1
  have h5 := css_sum hm.2
  exact ⟨n, w, hn, by omega, by omega⟩
end LA
