/-! part 74: feed, wipe, step; useful -/
section SW
variable {xs : List Int32} {rr : List gk_S} {w w' : gk_Wd} {G H : List Rl} {D S : List Int32} {fa x4 : Int32} {wd : List Nat} {A : List Nat} {F : List (Nat × Nat)} {d : Nat}
theorem WC_LQ : WC w wd ↔ LQ w 19 1 20 10 (wd.map Int32.ofNat) ∧ ∀ s ∈ wd, 16 ≤ s ∧ s < 22 := by
  constructor
  · intro h
    refine ⟨⟨by rw [h.1, List.length_map], by rw [List.length_map]; exact h.2.1, fun k x hx => ?_⟩, h.2.2.1⟩
    rw [List.getElem?_map] at hx
    obtain ⟨s, hs, rfl⟩ := Option.map_eq_some_iff.mp hx
    exact h.2.2.2 k s hs
  · intro ⟨h, hb⟩
    refine ⟨by have := h.1; rwa [List.length_map] at this, by have := h.2.1; rwa [List.length_map] at this, hb, fun k s hs => h.2.2 k _ (by rw [List.getElem?_map, hs]; rfl)⟩
theorem WM_LQ : WM w wd ↔ LQ w 26 24 43 10 (wd.map Int32.ofNat) ∧ ∀ s ∈ wd, 16 ≤ s ∧ s < 22 := by
  constructor
  · intro h
    refine ⟨⟨by rw [h.1, List.length_map], by rw [List.length_map]; exact h.2.1, fun k x hx => ?_⟩, h.2.2.1⟩
    rw [List.getElem?_map] at hx
    obtain ⟨s, hs, rfl⟩ := Option.map_eq_some_iff.mp hx
    exact h.2.2.2 k s hs
  · intro ⟨h, hb⟩
    refine ⟨by have := h.1; rwa [List.length_map] at this, by have := h.2.1; rwa [List.length_map] at this, hb, fun k s hs => h.2.2 k _ (by rw [List.getElem?_map, hs]; rfl)⟩
theorem bd_push {s : Nat} (h : ∀ s ∈ wd, 16 ≤ s ∧ s < 22) (h1 : 16 ≤ s) (h2 : s < 22) : ∀ t ∈ wd ++ [s], 16 ≤ t ∧ t < 22 := fun t ht => by
  rcases List.mem_append.mp ht with ht | ht
  · exact h t ht
  · obtain rfl := List.mem_singleton.mp ht; exact ⟨h1, h2⟩
theorem WC_push (hS : gk_Sh rr w) (h : WC w wd) (hl : wd.length < 10) {s : Nat} (h1 : 16 ≤ s) (h2 : s < 22) : WC (w_si (w_sa w 20 ((w_a w 20).set (w_i w 19 1).toNatClampNeg (Int32.ofNat s))) 19 1 ((w_i (w_sa w 20 ((w_a w 20).set (w_i w 19 1).toNatClampNeg (Int32.ofNat s))) 19 1) + 1)) (wd ++ [s]) := by
  obtain ⟨a, b⟩ := WC_LQ.mp h
  refine WC_LQ.mpr ⟨?_, bd_push b h1 h2⟩
  rw [List.map_append]
  exact LQ_push hS ly_19 rfl ly_20 a (by rw [List.length_map]; exact hl) (by omega) _
theorem WM_push (hS : gk_Sh rr w) (h : WM w wd) (hl : wd.length < 10) {s : Nat} (h1 : 16 ≤ s) (h2 : s < 22) : WM (w_si (w_sa w 43 ((w_a w 43).set (w_i w 26 24).toNatClampNeg (Int32.ofNat s))) 26 24 ((w_i (w_sa w 43 ((w_a w 43).set (w_i w 26 24).toNatClampNeg (Int32.ofNat s))) 26 24) + 1)) (wd ++ [s]) := by
  obtain ⟨a, b⟩ := WM_LQ.mp h
  refine WM_LQ.mpr ⟨?_, bd_push b h1 h2⟩
  rw [List.map_append]
  exact LQ_push hS ly_26 rfl ly_43 a (by rw [List.length_map]; exact hl) (by omega) _
theorem lt_103 {x : Int32} : 103 ≤ x ↔ 102 < x := by
  rw [Int32.le_iff_toInt_le, Int32.lt_iff_toInt_lt]
  have h1 : (103 : Int32).toInt = 103 := by decide
  have h2 : (102 : Int32).toInt = 102 := by decide
  omega
theorem f_67_0 {x : Int32} : f_67 x = 0 ↔ x < 97 ∨ 102 < x := by
  unfold f_67
  by_cases h1 : x < 97
  · rw [if_pos h1]; simp [h1]
  · rw [if_neg h1]
    by_cases h2 : 103 ≤ x
    · rw [if_pos h2]; simp [lt_103.mp h2]
    · rw [if_neg h2]; simp [h1, mt lt_103.mpr h2]
theorem let_s {x : Int32} (h1 : ¬ x < 97) (h2 : ¬ 102 < x) : ∃ s : Nat, 16 ≤ s ∧ s < 22 ∧ x = Int32.ofNat (s + 81) ∧ (16 + x) - 97 = Int32.ofNat s := by
  have hn : ¬ x < 0 := fun q => h1 (Int32.lt_trans q (by decide))
  obtain ⟨k, hk, rfl⟩ := nn hn
  have h1 : 97 ≤ k := by
    have := mt (i_lt (b := 97) hk (by omega)).mpr h1
    omega
  have h2 : k ≤ 102 := by
    have := mt (i_lt (a := 102) (by omega) hk).mpr h2
    omega
  refine ⟨k - 81, by omega, by omega, by rw [Nat.sub_add_cancel (by omega)], ?_⟩
  rw [show (16 : Int32) = Int32.ofNat 16 from rfl, i_add, show (97 : Int32) = Int32.ofNat 97 from rfl, i_sub (by omega)]
  congr 1; omega
/-- feed -/
theorem t_16 (hS : gk_Sh rr w) (hI : Inv w) (hn : ¬ ((Int32.ofNat xs.length) - 3) < x4) (hx : (xs.getD x4.toNatClampNeg 0) &&& 31 = 16) (o0 : gk_out x4 xs.length = false) (o1 : gk_out (x4 + 1) xs.length = false) : Tn xs rr w x4 := by
  obtain ⟨G, D, fa, wd, S, hc, hm⟩ := hI
  generalize hxx : ((xs.getD (x4 + 1).toNatClampNeg 0).toUInt32 % 65536).toInt32 = x
  have h0 := m0_mv hm
  by_cases hb : x < 97 ∨ 102 < x
  · have e1 : gk_E 7 66 [.ref 1, .int x] w (.inl (some (.int 0))) w := gk_E_i rfl rfl (sg_66_0 (d := 6) hS _ ⟨fun _ => ⟨rfl, rfl⟩, fun q => absurd (f_67_0.mpr hb) q⟩)
    have e2 : gk_E 7 203 [.ref 27, .int x] w (.inl (some (.int 0))) _ := gk_E_i rfl rfl (sg_203_0 (d := 7) hS _ ⟨fun _ => ⟨rfl, rfl⟩, fun q => ⟨fun _ => ⟨rfl, rfl⟩, fun q2 => absurd hb (by simp [q, q2])⟩⟩)
    exact ⟨_, rr, m0_sh hS, ⟨_, _, _, _, _, CV_N hc m0_fr, h0⟩, Or.inl rfl, fun r w' h => lw_op16 hS x4 hn hx (by rw [hxx]; exact ⟨o0, o1, _, w, rr, e1, hS, o1, _, _, rr, e2, m0_sh hS, fun _ => h, fun q => absurd rfl q⟩)⟩
  · have b1 : ¬ x < 97 := fun q => hb (Or.inl q)
    have b2 : ¬ 102 < x := fun q => hb (Or.inr q)
    have hW := hc.2.2.2.2.1
    have h10 := hW.2.1
    obtain ⟨s, z1, z2, -, z4⟩ := let_s b1 b2
    have z3 : f_68 x = Int32.ofNat s := z4
    have g1 : w_i w 19 1 < 10 ↔ wd.length < 10 := by rw [hW.1]; exact i_lt (b := 10) (by omega) (by omega)
    by_cases hl : wd.length < 10
    · have s1 := sh_si (sh_as hS ly_20 (w_i w 19 1).toNatClampNeg (Int32.ofNat s)) ly_19 (k := 1) rfl ((w_i (w_sa w 20 ((w_a w 20).set (w_i w 19 1).toNatClampNeg (Int32.ofNat s))) 19 1) + 1)
      have f1 : Fr [20] [(19, 1)] w (w_si (w_sa w 20 ((w_a w 20).set (w_i w 19 1).toNatClampNeg (Int32.ofNat s))) 19 1 ((w_i (w_sa w 20 ((w_a w 20).set (w_i w 19 1).toNatClampNeg (Int32.ofNat s))) 19 1) + 1)) := Fr_trans (Fr_sa (by decide) _) (Fr_si (by decide) _)
      have p1 := WC_push hS hW hl z1 z2
      generalize hw1 : w_si (w_sa w 20 ((w_a w 20).set (w_i w 19 1).toNatClampNeg (Int32.ofNat s))) 19 1 ((w_i (w_sa w 20 ((w_a w 20).set (w_i w 19 1).toNatClampNeg (Int32.ofNat s))) 19 1) + 1) = w1 at s1 f1 p1
      have c1 : CV w1 G D fa (wd ++ [s]) S := ⟨RS_Fr hc.1 f1 (by decide) (by decide), hc.2.1, LQ_Fr hc.2.2.1 f1 (by decide) (by decide), by rw [Fr_i f1 (by decide)]; exact hc.2.2.2.1, p1, LQ_Fr hc.2.2.2.2.2 f1 (by decide) (by decide)⟩
      have e1 : gk_E 7 66 [.ref 1, .int x] w (.inl (some (.int 1))) (w_si w1 19 6 0) := gk_E_i rfl rfl (sg_66_0 (d := 6) hS _ ⟨fun q => absurd (f_67_0.mp q) hb, fun _ => ⟨1, _, gk_E_i rfl rfl (sg_69_0 (d := 5) hS _ ⟨fun _ => ⟨by rw [hW.1]; exact o_ok hl (by omega), _, by rw [z3, hw1]; exact E15 s1, fg_sh s1, rfl, rfl⟩, fun q => absurd (g1.mpr hl) q⟩), fg_sh s1, fun q => absurd q (by decide), fun _ => ⟨rfl, rfl⟩⟩⟩)
      have f2 : Fr CA CF w (w_si w1 19 6 0) := Fr_trans (fr_c f1) (fr_c fg_fr)
      have c2 := CV_fg s1 c1
      have s2 := fg_sh s1
      generalize hw2 : w_si w1 19 6 0 = w2 at e1 f2 c2 s2
      have m2 := m0_mv (MV_C hm f2)
      have t2 := m0_sh s2
      have hW2 := m2.2.2.2.1
      have s3 := sh_si (sh_as t2 ly_43 (w_i (w_si w2 26 0 0) 26 24).toNatClampNeg (Int32.ofNat s)) ly_26 (k := 24) rfl ((w_i (w_sa (w_si w2 26 0 0) 43 ((w_a (w_si w2 26 0 0) 43).set (w_i (w_si w2 26 0 0) 26 24).toNatClampNeg (Int32.ofNat s))) 26 24) + 1)
      have f3 : Fr [43] [(26, 24)] (w_si w2 26 0 0) (w_si (w_sa (w_si w2 26 0 0) 43 ((w_a (w_si w2 26 0 0) 43).set (w_i (w_si w2 26 0 0) 26 24).toNatClampNeg (Int32.ofNat s))) 26 24 ((w_i (w_sa (w_si w2 26 0 0) 43 ((w_a (w_si w2 26 0 0) 43).set (w_i (w_si w2 26 0 0) 26 24).toNatClampNeg (Int32.ofNat s))) 26 24) + 1)) := Fr_trans (Fr_sa (by decide) _) (Fr_si (by decide) _)
      have p3 := WM_push t2 hW2 hl z1 z2
      generalize hw3 : w_si (w_sa (w_si w2 26 0 0) 43 ((w_a (w_si w2 26 0 0) 43).set (w_i (w_si w2 26 0 0) 26 24).toNatClampNeg (Int32.ofNat s))) 26 24 ((w_i (w_sa (w_si w2 26 0 0) 43 ((w_a (w_si w2 26 0 0) 43).set (w_i (w_si w2 26 0 0) 26 24).toNatClampNeg (Int32.ofNat s))) 26 24) + 1) = w3 at s3 f3 p3
      have m3 : MV w3 G D fa (wd ++ [s]) S := ⟨RM_Fr m2.1 f3 (by decide) (by decide), LQ_Fr m2.2.1 f3 (by decide) (by decide), by rw [Fr_i f3 (by decide)]; exact m2.2.2.1, p3, LQ_Fr m2.2.2.2.2 f3 (by decide) (by decide)⟩
      have g2 : ¬ w_i (w_si w2 26 0 0) 26 24 = 10 := by
        rw [hW2.1]; exact fun q => absurd ((i_eq (b := 10) (by omega) (by omega)).mp q) (by omega)
      have e3 : gk_E 7 203 [.ref 27, .int x] w2 (.inl (some (.int 1))) (w_si w3 26 28 0) := gk_E_i rfl rfl (sg_203_0 (d := 7) s2 _ ⟨fun q => absurd q b1, fun _ => ⟨fun q => absurd q b2, fun _ => ⟨fun _ => ⟨by rw [hW2.1]; exact o_ok hl (by omega), rfl, by rw [z4, hw3]⟩, fun q => absurd g2 q⟩⟩⟩)
      exact ⟨_, rr, ms_sh s3, ⟨_, _, _, _, _, CV_N c2 (Fr_trans m0_fr (Fr_trans (fr_n f3) (fr_n ms_fr))), MV_fg s3 m3⟩, Or.inl rfl, fun r w' h => lw_op16 hS x4 hn hx (by rw [hxx]; exact ⟨o0, o1, _, w2, rr, e1, s2, o1, _, _, rr, e3, ms_sh s3, fun _ => h, fun q => absurd rfl q⟩)⟩
    · have g2 : w_i (w_si w 26 0 0) 26 24 = 10 := by
        rw [h0.2.2.2.1.1]; exact (i_eq (b := 10) (by omega) (by omega)).mpr (by omega)
      have e1 : gk_E 7 66 [.ref 1, .int x] w (.inl (some (.int 0))) w := gk_E_i rfl rfl (sg_66_0 (d := 6) hS _ ⟨fun q => absurd (f_67_0.mp q) hb, fun _ => ⟨0, w, gk_E_i rfl rfl (sg_69_0 (d := 5) hS _ ⟨fun q => absurd (g1.mp q) hl, fun _ => ⟨rfl, rfl⟩⟩), hS, fun _ => ⟨rfl, rfl⟩, fun q => absurd rfl q⟩⟩)
      have e2 : gk_E 7 203 [.ref 27, .int x] w (.inl (some (.int 0))) _ := gk_E_i rfl rfl (sg_203_0 (d := 7) hS _ ⟨fun q => absurd q b1, fun _ => ⟨fun q => absurd q b2, fun _ => ⟨fun q => absurd g2 q, fun _ => ⟨rfl, rfl⟩⟩⟩⟩)
      exact ⟨_, rr, m0_sh hS, ⟨_, _, _, _, _, CV_N hc m0_fr, h0⟩, Or.inl rfl, fun r w' h => lw_op16 hS x4 hn hx (by rw [hxx]; exact ⟨o0, o1, _, w, rr, e1, hS, o1, _, _, rr, e2, m0_sh hS, fun _ => h, fun q => absurd rfl q⟩)⟩
/-- wipe -/
theorem t_17 (hS : gk_Sh rr w) (hI : Inv w) (hn : ¬ ((Int32.ofNat xs.length) - 3) < x4) (hx : (xs.getD x4.toNatClampNeg 0) &&& 31 = 17) (o0 : gk_out x4 xs.length = false) : Tn xs rr w x4 := by
  obtain ⟨G, D, fa, wd, S, hc, hm⟩ := hI
  have hW := hc.2.2.2.2.1
  have h10 := hW.2.1
  have f5 : ∀ {w : gk_Wd}, Fr [] [(26, 24)] (w_si w 26 0 0) (w_si (w_si w 26 0 0) 26 24 0) := Fr_si (by decide) _
  have p5 : ∀ {w : gk_Wd}, gk_Sh rr w → MV w G D fa wd S → gk_Sh rr (w_si (w_si w 26 0 0) 26 24 0) ∧ MV (w_si (w_si w 26 0 0) 26 24 0) G D fa [] S := fun {w} h1 h2 => by
    have h3 := m0_mv h2
    exact ⟨sh_si (m0_sh h1) ly_26 rfl _, RM_Fr h3.1 f5 (by decide) (by decide), LQ_Fr h3.2.1 f5 (by decide) (by decide), by rw [Fr_i f5 (by decide)]; exact h3.2.2.1, ⟨w_i_same (m0_sh h1) ly_26 rfl, by simp, by simp, by simp⟩, LQ_Fr h3.2.2.2.2 f5 (by decide) (by decide)⟩
  have g1 : ∀ {x : Int32}, x = Int32.ofNat wd.length → (x ≤ 0 ↔ wd.length = 0) := fun {x} e => by
    rw [e, show (0 : Int32) = Int32.ofNat 0 from rfl, i_le (by omega) (by omega)]; omega
  by_cases hl : wd.length = 0
  · have e1 : gk_E 7 70 [.ref 1] w (.inl (some (.int (Int32.ofNat wd.length)))) w := gk_E_i rfl rfl (sg_70_0 (d := 6) hS ⟨_, w, gk_E_i rfl rfl (sg_71_0 (d := 5) hS ⟨fun _ => ⟨by rw [hW.1], rfl⟩, fun q => absurd ((g1 hW.1).mpr hl) q⟩), hS, rfl, rfl⟩)
    have e2 : gk_E 7 204 [.ref 27] w (.inl (some (.int (Int32.ofNat wd.length)))) _ := gk_E_i rfl rfl (sg_204_0 (d := 7) hS ⟨fun _ => ⟨by rw [(m0_mv hm).2.2.2.1.1], rfl⟩, fun q => absurd ((g1 (m0_mv hm).2.2.2.1.1).mpr hl) q⟩)
    obtain ⟨s5, m5⟩ := p5 hS hm
    have e0 : wd = [] := List.eq_nil_of_length_eq_zero hl
    exact ⟨_, rr, s5, ⟨_, _, _, _, _, CV_N (e0 ▸ hc) (Fr_trans m0_fr (fr_n f5)), m5⟩, Or.inl rfl, fun r w' h => lw_op17 hS x4 hn hx ⟨o0, _, w, rr, e1, hS, _, _, rr, e2, s5, fun _ => h, fun q => absurd rfl q⟩⟩
  · have f1 : Fr [] [(19, 1)] w (w_si w 19 1 0) := Fr_si (by decide) _
    have s1 : gk_Sh rr (w_si w 19 1 0) := sh_si hS ly_19 rfl _
    have c1 : CV (w_si w 19 1 0) G D fa [] S := ⟨RS_Fr hc.1 f1 (by decide) (by decide), hc.2.1, LQ_Fr hc.2.2.1 f1 (by decide) (by decide), by rw [Fr_i f1 (by decide)]; exact hc.2.2.2.1, ⟨w_i_same hS ly_19 rfl, by simp, by simp, by simp⟩, LQ_Fr hc.2.2.2.2.2 f1 (by decide) (by decide)⟩
    have e1 : gk_E 7 70 [.ref 1] w (.inl (some (.int (Int32.ofNat wd.length)))) (w_si (w_si w 19 1 0) 19 6 0) := gk_E_i rfl rfl (sg_70_0 (d := 6) hS ⟨_, _, gk_E_i rfl rfl (sg_71_0 (d := 5) hS ⟨fun q => absurd ((g1 hW.1).mp q) hl, fun _ => ⟨_, E15 s1, fg_sh s1, by rw [hW.1], rfl⟩⟩), fg_sh s1, rfl, rfl⟩)
    have f2 : Fr CA CF w (w_si (w_si w 19 1 0) 19 6 0) := Fr_trans (fr_c f1) (fr_c fg_fr)
    have m2 := MV_C hm f2
    have e2 : gk_E 7 204 [.ref 27] (w_si (w_si w 19 1 0) 19 6 0) (.inl (some (.int (Int32.ofNat wd.length)))) _ := gk_E_i rfl rfl (sg_204_0 (d := 7) (fg_sh s1) ⟨fun q => absurd ((g1 (m0_mv m2).2.2.2.1.1).mp q) hl, fun _ => ⟨by rw [(m0_mv m2).2.2.2.1.1], rfl⟩⟩)
    obtain ⟨s5, m5⟩ := p5 (fg_sh s1) m2
    exact ⟨_, rr, ms_sh s5, ⟨_, _, _, _, _, CV_N (CV_fg s1 c1) (Fr_trans m0_fr (Fr_trans (fr_n f5) (fr_n ms_fr))), MV_fg s5 m5⟩, Or.inl rfl, fun r w' h => lw_op17 hS x4 hn hx ⟨o0, _, _, rr, e1, fg_sh s1, _, _, rr, e2, ms_sh s5, fun _ => h, fun q => absurd rfl q⟩⟩
/-- step -/
theorem t_21 (hS : gk_Sh rr w) (hI : Inv w) (hn : ¬ ((Int32.ofNat xs.length) - 3) < x4) (hx : (xs.getD x4.toNatClampNeg 0) &&& 31 = 21) (o0 : gk_out x4 xs.length = false) (o1 : gk_out (x4 + 1) xs.length = false) : Tn xs rr w x4 := by
  obtain ⟨G, D, fa, wd, S, hc, hm⟩ := hI
  generalize hxx : xs.getD (x4 + 1).toNatClampNeg 0 = x
  have h0 := m0_mv hm
  have hQ := hc.2.2.2.2.2
  have hM := h0.2.2.2.2
  have h10 := hQ.2.1
  have e1 := f_80_E (d := 6) hS x (fun q q2 => by
    obtain ⟨k, hk, rfl⟩ := nn q
    have := (LQ_lt hQ (by omega) hk).mp q2
    exact o_ok (by omega) (by omega))
  have e2 : gk_E 7 215 [.ref 27, .int x] w (.inl (some (.int (f_80 w x)))) (w_si w 26 0 0) := by
    refine gk_E_i rfl rfl (sg_215_0 (d := 7) hS x ⟨fun q => ?_, fun q => ?_⟩)
    · unfold f_80; rw [if_pos q]; exact ⟨rfl, rfl⟩
    · obtain ⟨k, hk, rfl⟩ := nn q
      have g1 := LQ_lt hM (by omega) hk
      have g2 : Int32.ofNat k < f_81 w ↔ k < S.length := LQ_lt hQ (by omega) hk
      refine ⟨fun q2 => ?_, fun q2 => ?_⟩
      · have hl := g1.mp q2
        refine ⟨o_ok (by omega) (by omega), ?_, rfl⟩
        unfold f_80
        rw [if_neg q, if_pos (g2.mpr hl), LQ_at hM hl hk]
        unfold f_82
        rw [LQ_at hQ hl hk]
      · unfold f_80
        rw [if_neg q, if_neg (fun q3 => q2 (g1.mpr (g2.mp q3)))]; exact ⟨rfl, rfl⟩
  exact ⟨_, rr, m0_sh hS, ⟨_, _, _, _, _, CV_N hc m0_fr, h0⟩, Or.inl rfl, fun r w' h => lw_op21 hS x4 hn hx (by rw [hxx]; exact ⟨o0, o1, _, w, rr, e1, hS, o1, _, _, rr, e2, m0_sh hS, fun _ => h, fun q => absurd rfl q⟩)⟩
end SW
