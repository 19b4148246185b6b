/-! part 76: solid, plain, greibach: one turn of each -/
section CO
variable {xs : List Int32} {rr r1 : List gk_S} {w w' w1 w2 : gk_Wd} {G H K : List Rl} {D S : List Int32} {fa x4 : Int32} {wd : List Nat} {d : Nat}
theorem c_8 (hS : gk_Sh rr w) (hc : CV w G D fa wd S) : ∃ o, solR G o ∧ CX 95 rr w (if o.isSome then 0 else 1) (lnO o) (o.getD G) D fa wd (if G = o.getD G then S else []) := by
  obtain ⟨w1, e1, s1, f1, q1⟩ := E20 (d := 5) hS rs_5 rs_3 (by decide) hc.1
  obtain ⟨o, w2, u2, e2, s2, f2, q2⟩ := E97 (d := 1) s1 rs_5 q1 hc.2.1
  have c2 : CV w2 G D fa wd S := CV_Fr (CV_Fr hc f1 (by decide) (by decide)) f2 (by decide) (by decide)
  have f12 : Fr CA CF w w2 := Fr_trans (fr_c f1) (fr_c f2)
  refine ⟨o, u2, ?_⟩
  cases o with
  | some K =>
    obtain ⟨q3, t3⟩ := q2 K rfl
    obtain ⟨w3, e3, s3, f3, c3⟩ := E18 (d := 4) s2 c2 q3 t3
    have e4 : gk_E 6 96 [.ref 1] w (.inl (some (.int (Int32.ofNat K.length)))) w3 := gk_E_i rfl rfl (sg_96_0 (d := 5) hS ⟨w1, e1, s1, _, w2, e2, s2, fun _ => ⟨_, w3, e3, s3, rfl, rfl⟩, fun q => absurd q (by decide : ¬ bI true = 0)⟩)
    exact ⟨_, rr, gk_E_i rfl rfl (sg_95_ok (d := 6) hS ⟨_, w3, rr, e4, s3, rfl, rfl⟩), l54_sh s3 _, Or.inl rfl, Fr_trans f12 (Fr_trans (fr_c f3) (fr_c (l54_fr _))), CV_54 c3 _, fun _ => l54_at s3 _⟩
  | none =>
    have e4 : gk_E 6 96 [.ref 1] w (.inr 10) (w2 ++ [.inl (10, [])]) := gk_E_i rfl rfl (sg_96_0 (d := 5) hS ⟨w1, e1, s1, _, w2, e2, s2, fun q => absurd rfl q, fun _ => ⟨by decide, rfl, rfl⟩⟩)
    show CX 95 rr w 1 0 G D fa wd (if G = G then S else [])
    rw [if_pos rfl]
    exact ⟨_, _, gk_E_i rfl rfl (sg_95_t10 (d := 6) hS ⟨_, _, e4, sh_thr s2 10, rfl, rfl⟩), sh_thr s2 10, Or.inr ⟨10, by simp, rfl⟩, Fr_trans f12 (Fr_thr 10), CV_Fr (A := []) (F := []) c2 (Fr_thr 10) (by decide) (by decide), fun q => absurd q (by decide)⟩
theorem m_8 (hS : gk_Sh rr w) (hs : srt G) (hm : MV w G D fa wd S) : ∃ o, solR G o ∧ MX 166 rr w (if o.isSome then 0 else 1) (lnO o) (o.getD G) D fa wd (if G = o.getD G then S else []) := by
  have m0 := m0_mv hm
  have s0 := m0_sh hS
  obtain ⟨w1, e1, s1, f1, q1, i1, j1⟩ := E167 (d := 6) s0 m0.1
  obtain ⟨o, w2, u2, e2, s2, f2, y2, z2⟩ := E168 (d := 3) s1 (RM_Fr m0.1 f1 (by decide) (by decide)) hs i1
  have f12 : Fr [28, 29, 30, 31, 32, 33, 34, 35, 36, 37, 38, 40, 48, 49, 50, 51] [(26, 4), (26, 8), (26, 12), (26, 14), (26, 15), (26, 32)] (w_si w 26 0 0) w2 := Fr_trans (Fr_mono f1 (by decide) (by decide)) (Fr_mono f2 (by decide) (by decide))
  obtain ⟨w3, e3, s3, f3, m3, i3⟩ := M172 hs m0 s2 f12 (by decide) (by decide) (by decide) (by decide) (RM_Fr q1 f2 (by decide) (by decide)) (by rw [Fr_i f12 (by decide)]; exact m0_i hS) y2 z2
  exact ⟨o, u2, w3, gk_E_i rfl rfl (sg_166_0 (d := 6) hS ⟨w1, e1, s1, w2, e2, s2, _, w3, e3, s3, rfl, rfl⟩), s3, Fr_trans m0_fr f3, m3, i3⟩
theorem t_8 (hS : gk_Sh rr w) (hI : Inv w) (hn : ¬ ((Int32.ofNat xs.length) - 3) < x4) (hx : (xs.getD x4.toNatClampNeg 0) &&& 31 = 8) (o0 : gk_out x4 xs.length = false) : Tn xs rr w x4 := by
  obtain ⟨G, D, fa, wd, S, hc, hm⟩ := hI
  obtain ⟨o, u, hC⟩ := c_8 hS hc
  refine t_ex (c := 95) (m := 166) o0 (fun r w' h => lw_op8 hS x4 hn hx h) hC (fun w1 r1 s1 f1 => ?_)
  obtain ⟨o', u', hM⟩ := m_8 s1 hc.2.1 (MV_C hm f1)
  rw [solR_uniq u u']
  exact hM
theorem c_9 (hS : gk_Sh rr w) (hc : CV w G D fa wd S) : ∃ o, plaR G o ∧ CX 100 rr w (if o.isSome then 0 else 1) (lnO o) (o.getD G) D fa wd (if G = o.getD G then S else []) := by
  obtain ⟨w1, e1, s1, f1, q1⟩ := E20 (d := 5) hS rs_5 rs_3 (by decide) hc.1
  obtain ⟨o, w2, u2, e2, s2, f2, q2⟩ := E102 (d := 2) s1 q1 hc.2.1
  have c2 : CV w2 G D fa wd S := CV_Fr (CV_Fr hc f1 (by decide) (by decide)) f2 (by decide) (by decide)
  have f12 : Fr CA CF w w2 := Fr_trans (fr_c f1) (fr_c f2)
  refine ⟨o, u2, ?_⟩
  cases o with
  | some K =>
    obtain ⟨q3, t3⟩ := q2 K rfl
    obtain ⟨w3, e3, s3, f3, c3⟩ := E18 (d := 4) s2 c2 q3 t3
    have e4 : gk_E 6 101 [.ref 1] w (.inl (some (.int (Int32.ofNat K.length)))) w3 := gk_E_i rfl rfl (sg_101_0 (d := 5) hS ⟨w1, e1, s1, _, w2, e2, s2, fun _ => ⟨_, w3, e3, s3, rfl, rfl⟩, fun q => absurd q (by decide : ¬ bI true = 0)⟩)
    exact ⟨_, rr, gk_E_i rfl rfl (sg_100_ok (d := 6) hS ⟨_, w3, rr, e4, s3, rfl, rfl⟩), l54_sh s3 _, Or.inl rfl, Fr_trans f12 (Fr_trans (fr_c f3) (fr_c (l54_fr _))), CV_54 c3 _, fun _ => l54_at s3 _⟩
  | none =>
    have e4 : gk_E 6 101 [.ref 1] w (.inr 10) (w2 ++ [.inl (10, [])]) := gk_E_i rfl rfl (sg_101_0 (d := 5) hS ⟨w1, e1, s1, _, w2, e2, s2, fun q => absurd rfl q, fun _ => ⟨by decide, rfl, rfl⟩⟩)
    show CX 100 rr w 1 0 G D fa wd (if G = G then S else [])
    rw [if_pos rfl]
    exact ⟨_, _, gk_E_i rfl rfl (sg_100_t10 (d := 6) hS ⟨_, _, e4, sh_thr s2 10, rfl, rfl⟩), sh_thr s2 10, Or.inr ⟨10, by simp, rfl⟩, Fr_trans f12 (Fr_thr 10), CV_Fr (A := []) (F := []) c2 (Fr_thr 10) (by decide) (by decide), fun q => absurd q (by decide)⟩
theorem m_9 (hS : gk_Sh rr w) (hs : srt G) (hm : MV w G D fa wd S) : ∃ o, plaR G o ∧ MX 176 rr w (if o.isSome then 0 else 1) (lnO o) (o.getD G) D fa wd (if G = o.getD G then S else []) := by
  have m0 := m0_mv hm
  have s0 := m0_sh hS
  obtain ⟨w1, e1, s1, f1, q1, i1, j1⟩ := E167 (d := 6) s0 m0.1
  obtain ⟨o, w2, u2, e2, s2, f2, y2, z2⟩ := E177 (d := 3) s1 (RM_Fr m0.1 f1 (by decide) (by decide)) hs i1
  have f12 : Fr [28, 29, 30, 31, 32, 33, 34, 35, 36, 37, 38, 40, 48, 49, 50, 51] [(26, 4), (26, 8), (26, 12), (26, 14), (26, 15), (26, 32)] (w_si w 26 0 0) w2 := Fr_trans (Fr_mono f1 (by decide) (by decide)) (Fr_mono f2 (by decide) (by decide))
  obtain ⟨w3, e3, s3, f3, m3, i3⟩ := M172 hs m0 s2 f12 (by decide) (by decide) (by decide) (by decide) (RM_Fr q1 f2 (by decide) (by decide)) (by rw [Fr_i f12 (by decide)]; exact m0_i hS) y2 z2
  exact ⟨o, u2, w3, gk_E_i rfl rfl (sg_176_0 (d := 6) hS ⟨w1, e1, s1, w2, e2, s2, _, w3, e3, s3, rfl, rfl⟩), s3, Fr_trans m0_fr f3, m3, i3⟩
theorem t_9 (hS : gk_Sh rr w) (hI : Inv w) (hn : ¬ ((Int32.ofNat xs.length) - 3) < x4) (hx : (xs.getD x4.toNatClampNeg 0) &&& 31 = 9) (o0 : gk_out x4 xs.length = false) : Tn xs rr w x4 := by
  obtain ⟨G, D, fa, wd, S, hc, hm⟩ := hI
  obtain ⟨o, u, hC⟩ := c_9 hS hc
  refine t_ex (c := 100) (m := 176) o0 (fun r w' h => lw_op9 hS x4 hn hx h) hC (fun w1 r1 s1 f1 => ?_)
  obtain ⟨o', u', hM⟩ := m_9 s1 hc.2.1 (MV_C hm f1)
  rw [plaR_uniq u u']
  exact hM
theorem c_10 (hS : gk_Sh rr w) (hc : CV w G D fa wd S) : ∃ o, greR G o ∧ CX 106 rr w (if o.isSome then 0 else 1) (lnO o) (o.getD G) D fa wd (if G = o.getD G then S else []) := by
  obtain ⟨w1, e1, s1, f1, q1⟩ := E20 (d := 5) hS rs_5 rs_3 (by decide) hc.1
  obtain ⟨o, w2, u2, e2, s2, f2, q2⟩ := E108 (d := 0) s1 q1 hc.2.1
  have c2 : CV w2 G D fa wd S := CV_Fr (CV_Fr hc f1 (by decide) (by decide)) f2 (by decide) (by decide)
  have f12 : Fr CA CF w w2 := Fr_trans (fr_c f1) (fr_c f2)
  refine ⟨o, u2, ?_⟩
  cases o with
  | some K =>
    obtain ⟨q3, t3⟩ := q2 K rfl
    obtain ⟨w3, e3, s3, f3, c3⟩ := E18 (d := 4) s2 c2 q3 t3
    have e4 : gk_E 6 107 [.ref 1] w (.inl (some (.int (Int32.ofNat K.length)))) w3 := gk_E_i rfl rfl (sg_107_0 (d := 5) hS ⟨w1, e1, s1, _, w2, e2, s2, fun _ => ⟨_, w3, e3, s3, rfl, rfl⟩, fun q => absurd q (by decide : ¬ bI true = 0)⟩)
    exact ⟨_, rr, gk_E_i rfl rfl (sg_106_ok (d := 6) hS ⟨_, w3, rr, e4, s3, rfl, rfl⟩), l54_sh s3 _, Or.inl rfl, Fr_trans f12 (Fr_trans (fr_c f3) (fr_c (l54_fr _))), CV_54 c3 _, fun _ => l54_at s3 _⟩
  | none =>
    have e4 : gk_E 6 107 [.ref 1] w (.inr 10) (w2 ++ [.inl (10, [])]) := gk_E_i rfl rfl (sg_107_0 (d := 5) hS ⟨w1, e1, s1, _, w2, e2, s2, fun q => absurd rfl q, fun _ => ⟨by decide, rfl, rfl⟩⟩)
    show CX 106 rr w 1 0 G D fa wd (if G = G then S else [])
    rw [if_pos rfl]
    exact ⟨_, _, gk_E_i rfl rfl (sg_106_t10 (d := 6) hS ⟨_, _, e4, sh_thr s2 10, rfl, rfl⟩), sh_thr s2 10, Or.inr ⟨10, by simp, rfl⟩, Fr_trans f12 (Fr_thr 10), CV_Fr (A := []) (F := []) c2 (Fr_thr 10) (by decide) (by decide), fun q => absurd q (by decide)⟩
theorem m_10 (hS : gk_Sh rr w) (hs : srt G) (hm : MV w G D fa wd S) : ∃ o, greR G o ∧ MX 180 rr w (if o.isSome then 0 else 1) (lnO o) (o.getD G) D fa wd (if G = o.getD G then S else []) := by
  have m0 := m0_mv hm
  have s0 := m0_sh hS
  obtain ⟨w1, e1, s1, f1, q1, i1, j1⟩ := E167 (d := 6) s0 m0.1
  obtain ⟨o, w2, u2, e2, s2, f2, y2, z2⟩ := E181 (d := 2) s1 (RM_Fr m0.1 f1 (by decide) (by decide)) hs i1 j1
  have f12 : Fr [28, 29, 30, 31, 32, 33, 34, 35, 36, 37, 38, 40, 48, 49, 50, 51] [(26, 4), (26, 8), (26, 12), (26, 14), (26, 15), (26, 32)] (w_si w 26 0 0) w2 := Fr_trans (Fr_mono f1 (by decide) (by decide)) (Fr_mono f2 (by decide) (by decide))
  obtain ⟨w3, e3, s3, f3, m3, i3⟩ := M172 hs m0 s2 f12 (by decide) (by decide) (by decide) (by decide) (RM_Fr q1 f2 (by decide) (by decide)) (by rw [Fr_i f12 (by decide)]; exact m0_i hS) y2 z2
  exact ⟨o, u2, w3, gk_E_i rfl rfl (sg_180_0 (d := 6) hS ⟨w1, e1, s1, w2, e2, s2, _, w3, e3, s3, rfl, rfl⟩), s3, Fr_trans m0_fr f3, m3, i3⟩
theorem t_10 (hS : gk_Sh rr w) (hI : Inv w) (hn : ¬ ((Int32.ofNat xs.length) - 3) < x4) (hx : (xs.getD x4.toNatClampNeg 0) &&& 31 = 10) (o0 : gk_out x4 xs.length = false) : Tn xs rr w x4 := by
  obtain ⟨G, D, fa, wd, S, hc, hm⟩ := hI
  obtain ⟨o, u, hC⟩ := c_10 hS hc
  refine t_ex (c := 106) (m := 180) o0 (fun r w' h => lw_op10 hS x4 hn hx h) hC (fun w1 r1 s1 f1 => ?_)
  obtain ⟨o', u', hM⟩ := m_10 s1 hc.2.1 (MV_C hm f1)
  rw [greR_uniq u u']
  exact hM
end CO
