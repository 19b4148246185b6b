/-! part 77: first, follow, single, language, derives: one turn of each -/
section AK
variable {xs : List Int32} {rr r1 : List gk_S} {w w' w1 w2 : gk_Wd} {G H K : List Rl} {D S : List Int32} {fa x4 : Int32} {wd : List Nat} {d : Nat}
theorem le_80 {x : Int32} : 81 ≤ x ↔ ¬ x ≤ 80 := by
  rw [Int32.le_iff_toInt_le, Int32.le_iff_toInt_le]
  have h1 : (81 : Int32).toInt = 81 := by decide
  have h2 : (80 : Int32).toInt = 80 := by decide
  omega
theorem f_52_0 {x : Int32} : f_52 x = 0 ↔ x < 65 ∨ ¬ x ≤ 80 := by
  unfold f_52
  by_cases h1 : x < 65
  · rw [if_pos h1]; simp [h1]
  · rw [if_neg h1]
    by_cases h2 : 81 ≤ x
    · rw [if_pos h2]; simp [le_80.mp h2]
    · rw [if_neg h2]
      have : x ≤ 80 := Decidable.not_not.mp (mt le_80.mpr h2)
      simp [h1, this]
theorem var_s {x : Int32} (h1 : ¬ x < 65) (h2 : x ≤ 80) : ∃ v : Nat, v < 16 ∧ x - 65 = Int32.ofNat v := by
  have hn : ¬ x < 0 := fun q => h1 (Int32.lt_trans q (by decide))
  obtain ⟨k, hk, rfl⟩ := nn hn
  have h1 : 65 ≤ k := by
    have := mt (i_lt (b := 65) hk (by omega)).mpr h1
    omega
  have h2 : k ≤ 80 := (i_le (b := 80) hk (by omega)).mp h2
  refine ⟨k - 65, by omega, ?_⟩
  rw [show (65 : Int32) = Int32.ofNat 65 from rfl, i_sub (by omega)]
theorem TBv {q v : Nat} {T : Nat → Int32} (h : TB w q T) (hv : v < 16) : (w_a w q).getD (Int32.ofNat v).toNatClampNeg 0 = T v := by
  rw [i_nat (by omega)]; exact h v hv
/-- first -/
theorem t_13 (hS : gk_Sh rr w) (hI : Inv w) (hn : ¬ ((Int32.ofNat xs.length) - 3) < x4) (hx : (xs.getD x4.toNatClampNeg 0) &&& 31 = 13) (o0 : gk_out x4 xs.length = false) (o1 : gk_out (x4 + 1) xs.length = false) : Tn xs rr w x4 := by
  obtain ⟨G, D, fa, wd, S, hc, hm⟩ := hI
  generalize hxx : ((xs.getD (x4 + 1).toNatClampNeg 0).toUInt32 % 65536).toInt32 = x
  by_cases hb : x < 65 ∨ ¬ x ≤ 80
  · have e1 : gk_E 7 51 [.ref 1, .int x] w (.inl (some (.int 0))) w := gk_E_i rfl rfl (sg_51_0 (d := 6) hS _ ⟨fun q => absurd (f_52_0.mpr hb) q, fun _ => ⟨rfl, rfl⟩⟩)
    have e2 : gk_E 7 195 [.ref 27, .int x] w (.inl (some (.int 0))) _ := gk_E_i rfl rfl (sg_195_0 (d := 6) hS _ ⟨fun _ => ⟨rfl, rfl⟩, fun q => ⟨fun q2 => absurd hb (by simp [q, q2]), fun _ => ⟨rfl, rfl⟩⟩⟩)
    exact ⟨_, rr, m0_sh hS, ⟨_, _, _, _, _, CV_N hc m0_fr, m0_mv hm⟩, Or.inl rfl, fun r w' h => lw_op13 hS x4 hn hx (by rw [hxx]; exact ⟨o0, o1, _, w, rr, e1, hS, o1, _, _, rr, e2, m0_sh hS, fun _ => h, fun q => absurd rfl q⟩)⟩
  · have b1 : ¬ x < 65 := fun q => hb (Or.inl q)
    have b2 : x ≤ 80 := Decidable.not_not.mp fun q => hb (Or.inr q)
    obtain ⟨v, hv, ev⟩ := var_s b1 b2
    obtain ⟨N, W, w1, n1, g1, e1, s1, f1, -, t1, -⟩ := E53 (d := 2) hS hc.1
    have e2 : gk_E 7 51 [.ref 1, .int x] w (.inl (some (.int (Fst N G v)))) w1 := gk_E_i rfl rfl (sg_51_0 (d := 6) hS _ ⟨fun _ => ⟨w1, e1, s1, by rw [ev]; exact o_ok hv (by omega), by unfold f_60; rw [ev, TBv t1 hv], rfl⟩, fun q => absurd (fun q2 => hb (f_52_0.mp q2)) q⟩)
    have m1 := m0_mv (MV_C hm (fr_c f1))
    obtain ⟨N', w2, n2, e3, s2, f2, -, t2⟩ := E196 (d := 3) (m0_sh s1) m1.1
    obtain rfl := isP_uniq n1 n2
    have e4 : gk_E 7 195 [.ref 27, .int x] w1 (.inl (some (.int (Fst N G v)))) w2 := gk_E_i rfl rfl (sg_195_0 (d := 6) s1 _ ⟨fun q => absurd q b1, fun _ => ⟨fun _ => ⟨w2, e3, s2, by rw [ev]; exact o_ok hv (by omega), by rw [ev, TBv t2 hv], rfl⟩, fun q => absurd b2 q⟩⟩)
    exact ⟨w2, rr, s2, ⟨_, _, _, _, _, CV_N (CV_Fr hc f1 (by decide) (by decide)) (Fr_trans m0_fr (fr_n f2)), MV_Fr m1 f2 (by decide) (by decide)⟩, Or.inl rfl, fun r w' h => lw_op13 hS x4 hn hx (by rw [hxx]; exact ⟨o0, o1, _, w1, rr, e2, s1, o1, _, _, rr, e4, s2, fun _ => h, fun q => absurd rfl q⟩)⟩
/-- follow -/
theorem t_14 (hS : gk_Sh rr w) (hI : Inv w) (hn : ¬ ((Int32.ofNat xs.length) - 3) < x4) (hx : (xs.getD x4.toNatClampNeg 0) &&& 31 = 14) (o0 : gk_out x4 xs.length = false) (o1 : gk_out (x4 + 1) xs.length = false) : Tn xs rr w x4 := by
  obtain ⟨G, D, fa, wd, S, hc, hm⟩ := hI
  generalize hxx : ((xs.getD (x4 + 1).toNatClampNeg 0).toUInt32 % 65536).toInt32 = x
  by_cases hb : x < 65 ∨ ¬ x ≤ 80
  · have e1 : gk_E 7 61 [.ref 1, .int x] w (.inl (some (.int 0))) w := gk_E_i rfl rfl (sg_61_0 (d := 6) hS _ ⟨fun q => absurd (f_52_0.mpr hb) q, fun _ => ⟨rfl, rfl⟩⟩)
    have e2 : gk_E 7 199 [.ref 27, .int x] w (.inl (some (.int 0))) _ := gk_E_i rfl rfl (sg_199_0 (d := 6) hS _ ⟨fun _ => ⟨rfl, rfl⟩, fun q => ⟨fun q2 => absurd hb (by simp [q, q2]), fun _ => ⟨rfl, rfl⟩⟩⟩)
    exact ⟨_, rr, m0_sh hS, ⟨_, _, _, _, _, CV_N hc m0_fr, m0_mv hm⟩, Or.inl rfl, fun r w' h => lw_op14 hS x4 hn hx (by rw [hxx]; exact ⟨o0, o1, _, w, rr, e1, hS, o1, _, _, rr, e2, m0_sh hS, fun _ => h, fun q => absurd rfl q⟩)⟩
  · have b1 : ¬ x < 65 := fun q => hb (Or.inl q)
    have b2 : x ≤ 80 := Decidable.not_not.mp fun q => hb (Or.inr q)
    obtain ⟨v, hv, ev⟩ := var_s b1 b2
    obtain ⟨N, W, w1, n1, g1, e1, s1, f1, -, -, t1⟩ := E53 (d := 2) hS hc.1
    have e2 : gk_E 7 61 [.ref 1, .int x] w (.inl (some (.int (W v)))) w1 := gk_E_i rfl rfl (sg_61_0 (d := 6) hS _ ⟨fun _ => ⟨w1, e1, s1, by rw [ev]; exact o_ok hv (by omega), by unfold f_62; rw [ev, TBv t1 hv], rfl⟩, fun q => absurd (fun q2 => hb (f_52_0.mp q2)) q⟩)
    have m1 := m0_mv (MV_C hm (fr_c f1))
    obtain ⟨N', W', w2, n2, g2, e3, s2, f2, -, -, t2⟩ := E200 (d := 2) (m0_sh s1) m1.1
    obtain rfl := isP_uniq n1 n2
    obtain rfl := isFo_uniq g1 g2
    have e4 : gk_E 7 199 [.ref 27, .int x] w1 (.inl (some (.int (W v)))) w2 := gk_E_i rfl rfl (sg_199_0 (d := 6) s1 _ ⟨fun q => absurd q b1, fun _ => ⟨fun _ => ⟨w2, e3, s2, by rw [ev]; exact o_ok hv (by omega), by rw [ev, TBv t2 hv], rfl⟩, fun q => absurd b2 q⟩⟩)
    exact ⟨w2, rr, s2, ⟨_, _, _, _, _, CV_N (CV_Fr hc f1 (by decide) (by decide)) (Fr_trans m0_fr (fr_n f2)), MV_Fr m1 f2 (by decide) (by decide)⟩, Or.inl rfl, fun r w' h => lw_op14 hS x4 hn hx (by rw [hxx]; exact ⟨o0, o1, _, w1, rr, e2, s1, o1, _, _, rr, e4, s2, fun _ => h, fun q => absurd rfl q⟩)⟩
/-- single -/
theorem t_15 (hS : gk_Sh rr w) (hI : Inv w) (hn : ¬ ((Int32.ofNat xs.length) - 3) < x4) (hx : (xs.getD x4.toNatClampNeg 0) &&& 31 = 15) (o0 : gk_out x4 xs.length = false) : Tn xs rr w x4 := by
  obtain ⟨G, D, fa, wd, S, hc, hm⟩ := hI
  obtain ⟨N, W, w1, n1, g1, e1, s1, f1, a1, b1, c1⟩ := E53 (d := 2) hS hc.1
  obtain ⟨b, hb, e2⟩ := E64 (d := 2) s1 (RS_Fr hc.1 f1 (by decide) (by decide)) a1 b1 c1
  have e3 : gk_E 7 63 [.ref 1] w (.inl (some (.int (bI b)))) w1 := gk_E_i rfl rfl (sg_63_0 (d := 6) hS ⟨w1, e1, s1, _, e2, bI_b _, rfl, rfl⟩)
  have m1 := m0_mv (MV_C hm (fr_c f1))
  obtain ⟨N', W', w2, n2, g2, e4, s2, f2, a2, b2, c2⟩ := E200 (d := 2) (m0_sh s1) m1.1
  obtain ⟨b', hb', e5⟩ := E201_l (d := 3) s2 (RM_Fr m1.1 f2 (by decide) (by decide)) a2 b2 c2
  have e6 : gk_E 7 201 [.ref 27] w1 (.inl (some (.int (bI b')))) w2 := gk_E_i rfl rfl (sg_201_0 (d := 6) s1 ⟨w2, e4, s2, e5⟩)
  obtain rfl : b = b' := sglR_uniq ⟨N, W, n1, g1, hb⟩ ⟨N', W', n2, g2, hb'⟩
  exact ⟨w2, rr, s2, ⟨_, _, _, _, _, CV_N (CV_Fr hc f1 (by decide) (by decide)) (Fr_trans m0_fr (fr_n f2)), MV_Fr m1 f2 (by decide) (by decide)⟩, Or.inl rfl, fun r w' h => lw_op15 hS x4 hn hx ⟨o0, _, w1, rr, e3, s1, _, _, rr, e6, s2, fun _ => h, fun q => absurd rfl q⟩⟩
/-- derives -/
theorem t_18 (hS : gk_Sh rr w) (hI : Inv w) (hn : ¬ ((Int32.ofNat xs.length) - 3) < x4) (hx : (xs.getD x4.toNatClampNeg 0) &&& 31 = 18) (o0 : gk_out x4 xs.length = false) : Tn xs rr w x4 := by
  obtain ⟨G, D, fa, wd, S, hc, hm⟩ := hI
  obtain ⟨E, w1, a1, b1, e1, s1, f1, t1⟩ := E73 (d := 2) hS hc.1 hc.2.2.2.2.1
  have e2 : gk_E 7 72 [.ref 1] w (.inl (some (.int (bI (bt (E 0 0) wd.length))))) w1 := gk_E_i rfl rfl (sg_72_0 (d := 6) hS ⟨_, w1, e1, s1, bI_b _, rfl, rfl⟩)
  have m1 := m0_mv (MV_C hm (fr_c f1))
  obtain ⟨E', w2, a2, b2, e3, s2, f2, t2⟩ := E206 (d := 4) (m0_sh s1) m1.1 m1.2.2.2.1
  obtain rfl := isE_uniq a1 a2
  have e00 : (w_a w2 44).getD 0 0 = E 0 0 := t2 0 0 (by omega) (by omega)
  have W2 := WM_Fr m1.2.2.2.1 f2 (by decide) (by decide)
  have h10 := W2.2.1
  have e4 : gk_E 7 205 [.ref 27] w1 (.inl (some (.int (bI (bt (E 0 0) wd.length))))) w2 := by
    refine gk_E_i rfl rfl (sg_205_0 (d := 6) s1 ⟨w2, e3, s2, ?_⟩)
    rw [e00, W2.1, bt_is1 (E 0 0) (v := wd.length) (by omega)]
    refine ⟨fun q => ⟨?_, rfl⟩, fun q => ⟨?_, rfl⟩⟩
    · rw [Bool.eq_false_iff.mpr q]; rfl
    · rw [q]; rfl
  exact ⟨w2, rr, s2, ⟨_, _, _, _, _, CV_N (CV_Fr hc f1 (by decide) (by decide)) (Fr_trans m0_fr (fr_n f2)), MV_Fr m1 f2 (by decide) (by decide)⟩, Or.inl rfl, fun r w' h => lw_op18 hS x4 hn hx ⟨o0, _, w1, rr, e2, s1, _, _, rr, e4, s2, fun _ => h, fun q => absurd rfl q⟩⟩
end AK
