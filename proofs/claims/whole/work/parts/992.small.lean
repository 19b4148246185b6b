/-! part 72: the small calls: type, place, drop, clear, rules, symbol, feed, wipe, step -/
section SM
variable {xs : List Int32} {rr : List gk_S} {w w' : gk_Wd} {G G' : List Rl} {D S : List Int32} {fa x4 : Int32} {wd : List Nat} {A : List Nat} {F : List (Nat × Nat)} {d : Nat}
theorem CV_G (h : CV w G D fa wd S) (f : Fr A F w w') (hR : RS w' 3 G') (hs : srt G') (hA : 2 ∉ A ∧ 20 ∉ A ∧ 24 ∉ A) (hF : (1, 1) ∉ F ∧ (0, 8) ∉ F ∧ (19, 1) ∉ F ∧ (19, 6) ∉ F) : CV w' G' D fa wd S :=
  ⟨hR, hs, LQ_Fr h.2.2.1 f hA.1 hF.1, by rw [Fr_i f hF.2.1]; exact h.2.2.2.1, WC_Fr h.2.2.2.2.1 f hA.2.1 hF.2.2.1, LQ_Fr h.2.2.2.2.2 f hA.2.2 hF.2.2.2⟩
theorem MV_G (h : MV w G D fa wd S) (f : Fr A F w w') (hR : RM w' 4 28 G') (hA : 27 ∉ A ∧ 43 ∉ A ∧ 46 ∉ A) (hF : (26, 1) ∉ F ∧ (26, 3) ∉ F ∧ (26, 24) ∉ F ∧ (26, 28) ∉ F) : MV w' G' D fa wd S :=
  ⟨hR, LQ_Fr h.2.1 f hA.1 hF.1, by rw [Fr_i f hF.2.1]; exact h.2.2.1, WM_Fr h.2.2.2.1 f hA.2.1 hF.2.2.1, LQ_Fr h.2.2.2.2 f hA.2.2 hF.2.2.2⟩
theorem E15 (hS : gk_Sh rr w) : gk_E d 15 [.ref 20] w (.inl none) (w_si w 19 6 0) := gk_E_i rfl rfl (sg_15_0 hS ⟨rfl, rfl⟩)
theorem fg_sh (hS : gk_Sh rr w) : gk_Sh rr (w_si w 19 6 0) := sh_si hS ly_19 rfl _
theorem fg_fr : Fr [] [(19, 6)] w (w_si w 19 6 0) := Fr_si (by decide) _
theorem CV_fg (hS : gk_Sh rr w) (h : CV w G D fa wd S) : CV (w_si w 19 6 0) G D fa wd [] :=
  ⟨RS_Fr h.1 fg_fr (by decide) (by decide), h.2.1, LQ_Fr h.2.2.1 fg_fr (by decide) (by decide), by rw [Fr_i fg_fr (by decide)]; exact h.2.2.2.1, WC_Fr h.2.2.2.2.1 fg_fr (by decide) (by decide), LQ_nil (w_i_same hS ly_19 rfl)⟩
theorem ms_sh (hS : gk_Sh rr w) : gk_Sh rr (w_si w 26 28 0) := sh_si hS ly_26 rfl _
theorem ms_fr : Fr [] [(26, 28)] w (w_si w 26 28 0) := Fr_si (by decide) _
theorem MV_fg (hS : gk_Sh rr w) (h : MV w G D fa wd S) : MV (w_si w 26 28 0) G D fa wd [] :=
  ⟨RM_Fr h.1 ms_fr (by decide) (by decide), LQ_Fr h.2.1 ms_fr (by decide) (by decide), by rw [Fr_i ms_fr (by decide)]; exact h.2.2.1, WM_Fr h.2.2.2.1 ms_fr (by decide) (by decide), LQ_nil (w_i_same hS ly_26 rfl)⟩
/-- type -/
def tyD (x : Int32) (D : List Int32) : Int32 × List Int32 := if ¬ x < 32 ∧ ¬ 126 < x ∧ D.length < 9 then (1, D ++ [x]) else (0, D)
theorem c_0 (hS : gk_Sh rr w) (h : CV w G D fa wd S) {x : Int32} (hf : fits (gk_ty 1) (.int x) = true) : CC 9 [.ref 1, .int x] rr w (tyD x D).1 G (tyD x D).2 fa wd S := by
  have hD := h.2.2.1
  have h9 := hD.2.1
  have e9 : w_i w 1 1 < 9 ↔ D.length < 9 := by rw [hD.1]; exact i_lt (b := 9) (by omega) (by omega)
  unfold tyD
  split
  · rename_i q
    have ff : Fr [2] [(1, 1)] w (w_si (w_sa w 2 ((w_a w 2).set (w_i w 1 1).toNatClampNeg x)) 1 1 ((w_i (w_sa w 2 ((w_a w 2).set (w_i w 1 1).toNatClampNeg x)) 1 1) + 1)) := Fr_trans (Fr_sa (by decide) _) (Fr_si (by decide) _)
    have ss := sh_si (sh_as hS ly_2 (w_i w 1 1).toNatClampNeg x) ly_1 (k := 1) rfl ((w_i (w_sa w 2 ((w_a w 2).set (w_i w 1 1).toNatClampNeg x)) 1 1) + 1)
    refine ⟨_, gk_E_i rfl rfl (sg_9_0 (d := 6) hS x ⟨1, _, gk_E_i rfl rfl (sg_10_0 (d := 6) hS x ⟨fun q2 => absurd q2 q.1, fun _ => ⟨fun q2 => absurd q2 q.2.1, fun _ => ⟨fun _ => ⟨by rw [hD.1]; exact o_ok q.2.2 (by omega), hf, rfl, rfl⟩, fun q2 => absurd (e9.mpr q.2.2) q2⟩⟩⟩), ss, rfl, rfl, rfl⟩), ss, fr_c ff, ?_⟩
    exact ⟨RS_Fr h.1 ff (by decide) (by decide), h.2.1, LQ_push hS ly_1 rfl ly_2 hD q.2.2 (by omega) x, by rw [Fr_i ff (by decide)]; exact h.2.2.2.1, WC_Fr h.2.2.2.2.1 ff (by decide) (by decide), LQ_Fr h.2.2.2.2.2 ff (by decide) (by decide)⟩
  · rename_i q
    refine ⟨w, gk_E_i rfl rfl (sg_9_0 (d := 6) hS x ⟨0, _, gk_E_i rfl rfl (sg_10_0 (d := 6) hS x ⟨fun q2 => ⟨rfl, rfl⟩, fun q3 => ⟨fun q2 => ⟨rfl, rfl⟩, fun q4 => ⟨fun q2 => absurd ⟨q3, q4, e9.mp q2⟩ q, fun q2 => ⟨rfl, rfl⟩⟩⟩⟩), hS, rfl, rfl, rfl⟩), hS, Fr_refl, h⟩
theorem m_0 (hS : gk_Sh rr w) (h : MV w G D fa wd S) {x : Int32} (hf : fits (gk_ty 1) (.int x) = true) : MC 142 [.ref 27, .int x] rr w (tyD x D).1 G (tyD x D).2 fa wd S := by
  have h0 := m0_mv h
  have s0 := m0_sh hS
  have f0 : Fr NA NF w (w_si w 26 0 0) := m0_fr
  have hD := h0.2.1
  have h9 := hD.2.1
  have e9 : w_i (w_si w 26 0 0) 26 1 = 9 ↔ D.length = 9 := by rw [hD.1]; exact i_eq (b := 9) (by omega) (by omega)
  unfold tyD
  split
  · rename_i q
    have ff : Fr [27] [(26, 1)] (w_si w 26 0 0) (w_si (w_sa (w_si w 26 0 0) 27 ((w_a (w_si w 26 0 0) 27).set (w_i (w_si w 26 0 0) 26 1).toNatClampNeg x)) 26 1 ((w_i (w_sa (w_si w 26 0 0) 27 ((w_a (w_si w 26 0 0) 27).set (w_i (w_si w 26 0 0) 26 1).toNatClampNeg x)) 26 1) + 1)) := Fr_trans (Fr_sa (by decide) _) (Fr_si (by decide) _)
    have ss := sh_si (sh_as s0 ly_27 (w_i (w_si w 26 0 0) 26 1).toNatClampNeg x) ly_26 (k := 1) rfl ((w_i (w_sa (w_si w 26 0 0) 27 ((w_a (w_si w 26 0 0) 27).set (w_i (w_si w 26 0 0) 26 1).toNatClampNeg x)) 26 1) + 1)
    refine ⟨_, gk_E_i rfl rfl (sg_142_0 (d := 7) hS x ⟨fun q2 => absurd q2 q.1, fun _ => ⟨fun q2 => absurd q2 q.2.1, fun _ => ⟨fun _ => ⟨by rw [hD.1]; exact o_ok q.2.2 (by omega), hf, rfl, rfl⟩, fun q2 => absurd (fun q3 => absurd (e9.mp q3) (by omega)) q2⟩⟩⟩), ss, Fr_trans f0 (fr_n ff), ?_⟩
    exact ⟨RM_Fr h0.1 ff (by decide) (by decide), LQ_push s0 ly_26 rfl ly_27 hD q.2.2 (by omega) x, by rw [Fr_i ff (by decide)]; exact h0.2.2.1, WM_Fr h0.2.2.2.1 ff (by decide) (by decide), LQ_Fr h0.2.2.2.2 ff (by decide) (by decide)⟩
  · rename_i q
    refine ⟨_, gk_E_i rfl rfl (sg_142_0 (d := 7) hS x ⟨fun q2 => ⟨rfl, rfl⟩, fun q3 => ⟨fun q2 => ⟨rfl, rfl⟩, fun q4 => ⟨fun q2 => absurd ⟨q3, q4, by have := mt e9.mpr q2; omega⟩ q, fun q2 => ⟨rfl, rfl⟩⟩⟩⟩), s0, f0, h0⟩
theorem t_0 (hS : gk_Sh rr w) (hI : Inv w) (hn : ¬ ((Int32.ofNat xs.length) - 3) < x4) (hx : (xs.getD x4.toNatClampNeg 0) &&& 31 = 0) (o0 : gk_out x4 xs.length = false) (o1 : gk_out (x4 + 1) xs.length = false) : Tn xs rr w x4 := by
  obtain ⟨G, D, fa, wd, S, hc, hm⟩ := hI
  obtain ⟨w1, e1, s1, f1, c1⟩ := c_0 hS hc (gk_fit_c (xs.getD (x4 + 1).toNatClampNeg 0).toUInt32)
  obtain ⟨w2, e2, s2, f2, m2⟩ := m_0 s1 (MV_C hm f1) (gk_fit_c (xs.getD (x4 + 1).toNatClampNeg 0).toUInt32)
  exact ⟨w2, rr, s2, ⟨_, _, _, _, _, CV_N c1 f2, m2⟩, Or.inl rfl, fun r w' h => lw_op0 hS x4 hn hx ⟨o0, o1, _, w1, rr, e1, s1, o1, _, w2, rr, e2, s2, fun _ => h, fun q => absurd rfl q⟩⟩
/-- place -/
theorem t_2 (hS : gk_Sh rr w) (hI : Inv w) (hn : ¬ ((Int32.ofNat xs.length) - 3) < x4) (hx : (xs.getD x4.toNatClampNeg 0) &&& 31 = 2) (o0 : gk_out x4 xs.length = false) : Tn xs rr w x4 := by
  obtain ⟨G, D, fa, wd, S, hc, hm⟩ := hI
  have e1 := f_11_E (d := 7) hS
  have e2 : gk_E 7 153 [.ref 27] w _ _ := gk_E_i rfl rfl (sg_153_0 (d := 7) hS ⟨rfl, rfl⟩)
  exact ⟨_, rr, m0_sh hS, ⟨_, _, _, _, _, CV_N hc m0_fr, m0_mv hm⟩, Or.inl rfl, fun r w' h => lw_op2 hS x4 hn hx ⟨o0, _, w, rr, e1, hS, _, _, rr, e2, m0_sh hS, fun _ => h, fun q => absurd (hc.2.2.2.1.trans (m0_mv hm).2.2.1.symm) q⟩⟩
/-- drop -/
theorem srt_er (h : srt G) (i : Nat) : srt (G.eraseIdx i) := List.Pairwise.sublist (List.eraseIdx_sublist ..) h
theorem t_3 (hS : gk_Sh rr w) (hI : Inv w) (hn : ¬ ((Int32.ofNat xs.length) - 3) < x4) (hx : (xs.getD x4.toNatClampNeg 0) &&& 31 = 3) (o0 : gk_out x4 xs.length = false) (o1 : gk_out (x4 + 1) xs.length = false) : Tn xs rr w x4 := by
  obtain ⟨G, D, fa, wd, S, hc, hm⟩ := hI
  generalize hxx : xs.getD (x4 + 1).toNatClampNeg 0 = x
  by_cases hneg : x < 0
  · have e1 : gk_E 7 12 [.ref 1, .int x] w (.inl (some (.int 0))) w := gk_E_i rfl rfl (sg_12_0 (d := 6) hS _ ⟨fun _ => ⟨rfl, rfl⟩, fun q => absurd hneg q⟩)
    have e2 : gk_E 7 154 [.ref 27, .int x] w (.inl (some (.int 0))) _ := gk_E_i rfl rfl (sg_154_0 (d := 6) hS _ ⟨fun _ => ⟨rfl, rfl⟩, fun q => absurd hneg q⟩)
    exact ⟨_, rr, m0_sh hS, ⟨_, _, _, _, _, CV_N hc m0_fr, m0_mv hm⟩, Or.inl rfl, fun r w' h => lw_op3 hS x4 hn hx (by rw [hxx]; exact ⟨o0, o1, _, w, rr, e1, hS, o1, _, _, rr, e2, m0_sh hS, fun _ => h, fun q => absurd rfl q⟩)⟩
  · obtain ⟨k, hk, rfl⟩ := nn hneg
    have h0 := m0_mv hm
    have g1 : Int32.ofNat k < f_13 w 3 ↔ k < G.length := by have := RS_60 hc.1; unfold f_13; rw [hc.1.1]; exact i_lt hk (by omega)
    have g2 : Int32.ofNat k < w_i (w_si w 26 0 0) 26 4 ↔ k < G.length := by have := RS_60 hc.1; rw [h0.1.1]; exact i_lt hk (by omega)
    by_cases hl : k < G.length
    · obtain ⟨w1, e1, s1, f1, r1⟩ := E14 (d := 6) hS rs_3 hc.1 hl
      have c1 := CV_fg s1 (CV_G hc f1 r1 (srt_er hc.2.1 k) (by decide) (by decide))
      have e2 : gk_E 7 12 [.ref 1, .int (Int32.ofNat k)] w (.inl (some (.int 1))) _ := gk_E_i rfl rfl (sg_12_0 (d := 6) hS _ ⟨fun q => absurd q hneg, fun _ => ⟨fun _ => ⟨_, e1, s1, _, E15 s1, fg_sh s1, rfl, rfl⟩, fun q => absurd (g1.mpr hl) q⟩⟩)
      have f2 : Fr CA CF w (w_si w1 19 6 0) := Fr_trans (fr_c f1) (fr_c fg_fr)
      have h2 := m0_mv (MV_C hm f2)
      have s2 := m0_sh (fg_sh s1)
      obtain ⟨w3, e3, s3, f3, r3⟩ := E155 (d := 5) s2 h2.1 hl
      have m3 := MV_fg s3 (MV_G h2 f3 r3 (by decide) (by decide))
      have g3 : Int32.ofNat k < w_i (w_si (w_si w1 19 6 0) 26 0 0) 26 4 := by have := RS_60 hc.1; rw [h2.1.1]; exact (i_lt hk (by omega)).mpr hl
      have e4 : gk_E 7 154 [.ref 27, .int (Int32.ofNat k)] (w_si w1 19 6 0) (.inl (some (.int 1))) _ := gk_E_i rfl rfl (sg_154_0 (d := 6) (fg_sh s1) _ ⟨fun q => absurd q hneg, fun _ => ⟨fun _ => ⟨_, e3, s3, rfl, rfl⟩, fun q => absurd g3 q⟩⟩)
      have f4 : Fr NA NF (w_si w1 19 6 0) (w_si w3 26 28 0) := Fr_trans m0_fr (Fr_trans (fr_n f3) (fr_n ms_fr))
      exact ⟨_, rr, ms_sh s3, ⟨_, _, _, _, _, CV_N c1 f4, m3⟩, Or.inl rfl, fun r w' h => lw_op3 hS x4 hn hx (by rw [hxx]; exact ⟨o0, o1, _, _, rr, e2, fg_sh s1, o1, _, _, rr, e4, ms_sh s3, fun _ => h, fun q => absurd rfl q⟩)⟩
    · have e1 : gk_E 7 12 [.ref 1, .int (Int32.ofNat k)] w (.inl (some (.int 0))) w := gk_E_i rfl rfl (sg_12_0 (d := 6) hS _ ⟨fun q => absurd q hneg, fun _ => ⟨fun q => absurd (g1.mp q) hl, fun _ => ⟨rfl, rfl⟩⟩⟩)
      have e2 : gk_E 7 154 [.ref 27, .int (Int32.ofNat k)] w (.inl (some (.int 0))) _ := gk_E_i rfl rfl (sg_154_0 (d := 6) hS _ ⟨fun q => absurd q hneg, fun _ => ⟨fun q => absurd (g2.mp q) hl, fun _ => ⟨rfl, rfl⟩⟩⟩)
      exact ⟨_, rr, m0_sh hS, ⟨_, _, _, _, _, CV_N hc m0_fr, h0⟩, Or.inl rfl, fun r w' h => lw_op3 hS x4 hn hx (by rw [hxx]; exact ⟨o0, o1, _, w, rr, e1, hS, o1, _, _, rr, e2, m0_sh hS, fun _ => h, fun q => absurd rfl q⟩)⟩
end SM
