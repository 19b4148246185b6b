/-! part 73: takeOver; clear, rules, symbol -/
section SN
variable {xs : List Int32} {rr : List gk_S} {w w' : gk_Wd} {G H : List Rl} {D S : List Int32} {fa x4 : Int32} {wd : List Nat} {A : List Nat} {F : List (Nat × Nat)} {d : Nat}
theorem fr_13 (h : RS w 3 G) : f_13 w 3 = Int32.ofNat G.length := h.1
/-- takeOver -/
theorem E18 (hS : gk_Sh rr w) (hc : CV w G D fa wd S) (hH : RS w 5 H) (hs : srt H) : ∃ w', gk_E (d + 1) 18 [.ref 1] w (.inl (some (.int (Int32.ofNat H.length)))) w' ∧ gk_Sh rr w' ∧ Fr [4] [(3, 1), (19, 6)] w w' ∧ CV w' H D fa wd (if G = H then S else []) := by
  have e0 := E19 (d := d) hS rs_3 rs_5 hc.1 hH
  by_cases he : G = H
  · subst he
    rw [if_pos rfl] at e0 ⊢
    exact ⟨w, gk_E_i rfl rfl (sg_18_0 hS ⟨_, e0, fun _ => ⟨by rw [fr_13 hc.1], rfl⟩, fun q => absurd q (by decide)⟩), hS, Fr_refl, hc⟩
  · rw [if_neg he] at e0 ⊢
    obtain ⟨w1, e1, s1, f1, r1⟩ := E20 (d := d) hS rs_3 rs_5 (by decide) hH
    have c1 := CV_fg s1 (CV_G hc f1 r1 hs (by decide) (by decide))
    exact ⟨_, gk_E_i rfl rfl (sg_18_0 hS ⟨_, e0, fun q => absurd rfl q, fun _ => ⟨w1, e1, s1, _, E15 s1, fg_sh s1, by rw [fr_13 c1.1], rfl⟩⟩), fg_sh s1, Fr_trans (Fr_mono f1 (by decide) (by decide)) (Fr_mono fg_fr (by decide) (by decide)), c1⟩
/-- clear -/
theorem t_4 (hS : gk_Sh rr w) (hI : Inv w) (hn : ¬ ((Int32.ofNat xs.length) - 3) < x4) (hx : (xs.getD x4.toNatClampNeg 0) &&& 31 = 4) (o0 : gk_out x4 xs.length = false) : Tn xs rr w x4 := by
  obtain ⟨G, D, fa, wd, S, hc, hm⟩ := hI
  obtain ⟨w1, e1, s1, f1, r1⟩ := E17 (d := 6) hS rs_5
  have c1 := CV_Fr hc f1 (by decide) (by decide)
  obtain ⟨w2, e2, s2, f2, c2⟩ := E18 (d := 5) s1 c1 r1 List.Pairwise.nil
  have e3 : gk_E 7 16 [.ref 1] w (.inl (some (.int (Int32.ofNat G.length)))) w2 := gk_E_i rfl rfl (sg_16_0 (d := 6) hS ⟨w1, e1, s1, _, w2, e2, s2, by rw [fr_13 hc.1], rfl⟩)
  have f3 : Fr CA CF w w2 := Fr_trans (fr_c f1) (fr_c f2)
  have m3 := m0_mv (MV_C hm f3)
  have s3 := m0_sh s2
  have h60 := RS_60 hc.1
  have g1 : w_i (w_si w2 26 0 0) 26 4 ≤ 0 ↔ G.length = 0 := by
    rw [m3.1.1, show (0 : Int32) = Int32.ofNat 0 from rfl, i_le (by omega) (by omega)]; omega
  have f5 : Fr [] [(26, 4)] (w_si w2 26 0 0) (w_si (w_si w2 26 0 0) 26 4 0) := Fr_si (by decide) _
  have s5 : gk_Sh rr (w_si (w_si w2 26 0 0) 26 4 0) := sh_si s3 ly_26 rfl _
  have r5 : RM (w_si (w_si w2 26 0 0) 26 4 0) 4 28 [] := ⟨w_i_same s3 ly_26 rfl, by simp, by simp, by simp⟩
  have m5 := MV_G m3 f5 r5 (by decide) (by decide)
  by_cases hG : G.length = 0
  · have e4 : gk_E 7 156 [.ref 27] w2 (.inl (some (.int (Int32.ofNat G.length)))) _ := gk_E_i rfl rfl (sg_156_0 (d := 7) s2 ⟨fun _ => ⟨by rw [m3.1.1], rfl⟩, fun q => absurd (g1.mpr hG) q⟩)
    rw [if_pos (List.eq_nil_of_length_eq_zero hG)] at c2
    exact ⟨_, rr, s5, ⟨_, _, _, _, _, CV_N c2 (Fr_trans m0_fr (fr_n f5)), m5⟩, Or.inl rfl, fun r w' h => lw_op4 hS x4 hn hx ⟨o0, _, w2, rr, e3, s2, _, _, rr, e4, s5, fun _ => h, fun q => absurd rfl q⟩⟩
  · have e4 : gk_E 7 156 [.ref 27] w2 (.inl (some (.int (Int32.ofNat G.length)))) _ := gk_E_i rfl rfl (sg_156_0 (d := 7) s2 ⟨fun q => absurd (g1.mp q) hG, fun _ => ⟨by rw [m3.1.1], rfl⟩⟩)
    rw [if_neg (fun q => hG (by rw [q]; rfl))] at c2
    exact ⟨_, rr, ms_sh s5, ⟨_, _, _, _, _, CV_N c2 (Fr_trans m0_fr (Fr_trans (fr_n f5) (fr_n ms_fr))), MV_fg s5 m5⟩, Or.inl rfl, fun r w' h => lw_op4 hS x4 hn hx ⟨o0, _, w2, rr, e3, s2, _, _, rr, e4, ms_sh s5, fun _ => h, fun q => absurd rfl q⟩⟩
/-- rules -/
theorem t_5 (hS : gk_Sh rr w) (hI : Inv w) (hn : ¬ ((Int32.ofNat xs.length) - 3) < x4) (hx : (xs.getD x4.toNatClampNeg 0) &&& 31 = 5) (o0 : gk_out x4 xs.length = false) : Tn xs rr w x4 := by
  obtain ⟨G, D, fa, wd, S, hc, hm⟩ := hI
  have e1 := f_21_E (d := 6) hS
  have e2 : gk_E 7 157 [.ref 27] w _ _ := gk_E_i rfl rfl (sg_157_0 (d := 7) hS ⟨rfl, rfl⟩)
  exact ⟨_, rr, m0_sh hS, ⟨_, _, _, _, _, CV_N hc m0_fr, m0_mv hm⟩, Or.inl rfl, fun r w' h => lw_op5 hS x4 hn hx ⟨o0, _, w, rr, e1, hS, _, _, rr, e2, m0_sh hS, fun _ => h, fun q => absurd (hc.1.1.trans (m0_mv hm).1.1.symm) q⟩⟩
theorem f_27_159 : ∀ s : Fin 22, f_27 (Int32.ofNat s.1) = f_159 (Int32.ofNat s.1) := by decide
/-- symbol -/
theorem m_6 (hS : gk_Sh rr w) (hc : CV w G D fa wd S) (hm : MV w G D fa wd S) (x y : Int32) : gk_E 7 158 [.ref 27, .int x, .int y] w (.inl (some (.int (f_22 w x y)))) (w_si w 26 0 0) := by
  have h60 := RS_60 hc.1
  have h0 := m0_mv hm
  refine gk_E_i rfl rfl (sg_158_0 (d := 6) hS x y ⟨fun q => ?_, fun q => ?_⟩)
  · unfold f_22; rw [if_pos q]; exact ⟨rfl, rfl⟩
  · obtain ⟨i, hi, rfl⟩ := nn q
    rw [h0.1.1, i_lt hi (by omega)]
    have g1 : (Int32.ofNat i < f_13 w 3) ↔ i < G.length := by rw [fr_13 hc.1]; exact i_lt hi (by omega)
    refine ⟨fun q2 => ⟨fun q3 => ?_, fun q3 => ?_⟩, fun q2 => ?_⟩
    · unfold f_22; rw [if_neg q, if_pos (g1.mpr q2), if_pos q3]; exact ⟨rfl, rfl⟩
    · obtain ⟨k, hk, rfl⟩ := nn q3
      have hok := RS_ok hc.1 q2
      have h10 := hok.2.1
      have h16 := hok.1
      have ef : f_23 w 3 (Int32.ofNat i) = pk G[i] := RS_at hc.1 q2
      have el : (w_a (w_si w 26 0 0) 29).getD (Int32.ofNat i).toNatClampNeg 0 = Int32.ofNat G[i].2.length := by
        rw [i_nat hi]; exact (h0.1.2.2.2 i _ (List.getElem?_eq_getElem q2)).2.1
      have el0 : (w_a (w_si w 26 0 0) 28).getD (Int32.ofNat i).toNatClampNeg 0 = Int32.ofNat G[i].1 := by
        rw [i_nat hi]; exact (h0.1.2.2.2 i _ (List.getElem?_eq_getElem q2)).1
      refine ⟨RM_out h0.1 q2, ?_⟩
      unfold f_22
      rw [if_neg q, if_pos (g1.mpr q2), if_neg q3, ef, f_24_pk hok, el]
      refine ⟨fun q4 => ?_, fun q4 => ?_⟩
      · rw [if_pos q4]
        refine ⟨fun q5 => ?_, fun q5 => ?_⟩
        · rw [if_pos q5]
          have q4' := (i_le hk (by omega)).mp q4
          have k0 : k ≠ 0 := fun e => q5 (by rw [e]; rfl)
          obtain ⟨j, rfl⟩ : ∃ j, k = j + 1 := ⟨k - 1, by omega⟩
          have e1 : Int32.ofNat (j + 1) - 1 = Int32.ofNat j := i_sub (a := j + 1) (b := 1) (by omega)
          have hj : j < G[i].2.length := by omega
          have hs := hok.2.2 _ (List.getElem_mem hj)
          rw [e1, f_26_pk hok hj, RM_at h0.1 q2 hj]
          refine ⟨?_, ?_, rfl⟩
          · rw [show (10 : Int32) = Int32.ofNat 10 from rfl, i_mul, i_add]
            exact o_ok (by omega) (by omega)
          · rw [f_27_159 ⟨_, hs⟩]
        · rw [if_neg q5]
          refine ⟨RM_out h0.1 q2, ?_, rfl⟩
          rw [f_25_pk hok, el0, f_27_159 ⟨_, Nat.lt_of_lt_of_le h16 (by decide)⟩]
      · rw [if_neg q4]; exact ⟨rfl, rfl⟩
    · unfold f_22; rw [if_neg q, if_neg (mt g1.mp q2)]; exact ⟨rfl, rfl⟩
theorem t_6 (hS : gk_Sh rr w) (hI : Inv w) (hn : ¬ ((Int32.ofNat xs.length) - 3) < x4) (hx : (xs.getD x4.toNatClampNeg 0) &&& 31 = 6) (o0 : gk_out x4 xs.length = false) (o1 : gk_out (x4 + 1) xs.length = false) (o2 : gk_out (x4 + 2) xs.length = false) : Tn xs rr w x4 := by
  obtain ⟨G, D, fa, wd, S, hc, hm⟩ := hI
  have h60 := RS_60 hc.1
  have e1 := f_22_E (d := 5) hS (xs.getD (x4 + 1).toNatClampNeg 0) (xs.getD (x4 + 2).toNatClampNeg 0) (fun q q2 => by
    obtain ⟨k, hk, e⟩ := nn q
    rw [e] at q2 ⊢
    rw [fr_13 hc.1, i_lt hk (by omega)] at q2
    exact o_ok (by omega) (by omega))
  have e2 := m_6 hS hc hm (xs.getD (x4 + 1).toNatClampNeg 0) (xs.getD (x4 + 2).toNatClampNeg 0)
  exact ⟨_, rr, m0_sh hS, ⟨_, _, _, _, _, CV_N hc m0_fr, m0_mv hm⟩, Or.inl rfl, fun r w' h => lw_op6 hS x4 hn hx ⟨o0, o1, o2, _, w, rr, e1, hS, o1, o2, _, _, rr, e2, m0_sh hS, fun _ => h, fun q => absurd rfl q⟩⟩
end SN
