/-! part 75: useful, solid, plain, greibach of both -/
section CN
variable {xs : List Int32} {rr r1 : List gk_S} {w w' w1 w2 : gk_Wd} {G H K : List Rl} {D S : List Int32} {fa x4 : Int32} {wd : List Nat} {A : List Nat} {F : List (Nat × Nat)} {d : Nat}
theorem isU_srt (hs : srt G) (h : isU G H) : srt H := List.Pairwise.sublist (isU_sub h) hs
/-- useful -/
theorem t_7 (hS : gk_Sh rr w) (hI : Inv w) (hn : ¬ ((Int32.ofNat xs.length) - 3) < x4) (hx : (xs.getD x4.toNatClampNeg 0) &&& 31 = 7) (o0 : gk_out x4 xs.length = false) : Tn xs rr w x4 := by
  obtain ⟨G, D, fa, wd, S, hc, hm⟩ := hI
  have h60 := RS_60 hc.1
  obtain ⟨w1, e1, s1, f1, q1⟩ := E20 (d := 6) hS rs_5 rs_3 (by decide) hc.1
  obtain ⟨H, w2, u2, e2, s2, f2, q2⟩ := E30 (d := 2) s1 rs_5 q1
  have c2 : CV w2 G D fa wd S := CV_Fr (CV_Fr hc f1 (by decide) (by decide)) f2 (by decide) (by decide)
  obtain ⟨w3, e3, s3, f3, c3⟩ := E18 (d := 5) s2 c2 q2 (isU_srt hc.2.1 u2)
  have e4 : gk_E 7 29 [.ref 1] w _ w3 := gk_E_i rfl rfl (sg_29_0 (d := 6) hS ⟨w1, e1, s1, _, w2, e2, s2, _, w3, e3, s3, rfl, rfl⟩)
  have f4 : Fr CA CF w w3 := Fr_trans (fr_c f1) (Fr_trans (fr_c f2) (fr_c f3))
  have m4 := m0_mv (MV_C hm f4)
  obtain ⟨H', w5, u5, e5, s5, f5, q5⟩ := E161 (d := 4) (m0_sh s3) m4.1
  obtain rfl := isU_uniq u2 u5
  have m5 := MV_G m4 f5 q5 (by decide) (by decide)
  have g1 : Int32.ofNat (G.length - H.length) ≤ 0 ↔ G.length - H.length = 0 := by
    rw [show (0 : Int32) = Int32.ofNat 0 from rfl, i_le (by omega) (by omega)]; omega
  have f6 : Fr NA NF w3 w5 := Fr_trans m0_fr (fr_n f5)
  have hle := (isU_sub u2).length_le
  by_cases hl : G.length - H.length = 0
  · have e6 : gk_E 7 160 [.ref 27] w3 _ w5 := gk_E_i rfl rfl (sg_160_0 (d := 6) s3 ⟨_, w5, e5, s5, fun _ => ⟨rfl, rfl⟩, fun q => absurd (g1.mpr hl) q⟩)
    rw [if_pos ((isU_sub u2).eq_of_length (by omega)).symm] at c3
    exact ⟨_, rr, s5, ⟨_, _, _, _, _, CV_N c3 f6, m5⟩, Or.inl rfl, fun r w' h => lw_op7 hS x4 hn hx ⟨o0, _, w3, rr, e4, s3, _, _, rr, e6, s5, fun _ => h, fun q => absurd rfl q⟩⟩
  · have e6 : gk_E 7 160 [.ref 27] w3 _ (w_si w5 26 28 0) := gk_E_i rfl rfl (sg_160_0 (d := 6) s3 ⟨_, w5, e5, s5, fun q => absurd (g1.mp q) hl, fun _ => ⟨rfl, rfl⟩⟩)
    rw [if_neg (fun q => hl (by rw [q]; omega))] at c3
    exact ⟨_, rr, ms_sh s5, ⟨_, _, _, _, _, CV_N c3 (Fr_trans f6 (fr_n ms_fr)), MV_fg s5 m5⟩, Or.inl rfl, fun r w' h => lw_op7 hS x4 hn hx ⟨o0, _, w3, rr, e4, s3, _, _, rr, e6, ms_sh s5, fun _ => h, fun q => absurd rfl q⟩⟩
/-- what a call of the class does that may throw -/
def CX (mi : Nat) (rr : List gk_S) (w : gk_Wd) (cv v : Int32) (G : List Rl) (D : List Int32) (fa : Int32) (wd : List Nat) (S : List Int32) : Prop := ∃ (w1 : gk_Wd) (r1 : List gk_S), gk_E 7 mi [.ref 1, .ref 55] w (.inl (some (.int cv))) w1 ∧ gk_Sh r1 w1 ∧ Ex r1 rr ∧ Fr CA CF w w1 ∧ CV w1 G D fa wd S ∧ (cv = 0 → (w_l w1 54).getD 0 0 = v.toInt64)
def MX (mi : Nat) (rr : List gk_S) (w : gk_Wd) (cv v : Int32) (G : List Rl) (D : List Int32) (fa : Int32) (wd : List Nat) (S : List Int32) : Prop := ∃ w1 : gk_Wd, gk_E 7 mi [.ref 27] w (.inl (some (.int v))) w1 ∧ gk_Sh rr w1 ∧ Fr NA NF w w1 ∧ MV w1 G D fa wd S ∧ w_i w1 26 0 = cv
theorem t_ex {c m : Nat} {cv v : Int32} (o0 : gk_out x4 xs.length = false) (lw : ∀ (r : gk_Res) (w' : gk_Wd), (gk_out x4 xs.length = false ∧ (∃ (v3 : Int32), ∃ (w4 : gk_Wd), ∃ (rr5 : List gk_S), gk_E 7 c [.ref 1, .ref 55] w (.inl (some (.int v3))) w4 ∧ gk_Sh rr5 w4 ∧ (∃ (v8 : Int32), ∃ (w9 : gk_Wd), ∃ (rr10 : List gk_S), gk_E 7 m [.ref 27] w4 (.inl (some (.int v8))) w9 ∧ gk_Sh rr10 w9 ∧ (∃ (v13 : Int32), ∃ (w14 : gk_Wd), ∃ (rr15 : List gk_S), gk_E 7 141 [.ref 27] w9 (.inl (some (.int v13))) w14 ∧ gk_Sh rr15 w14 ∧ ((v13 = v3 → ((¬ v3 = 0 → gk_W (some xs) 8 0 23 [some (.ref 0), some (.ref 1), some (.ref 27), some (.ref 55), some (.int (x4 + 3)), none, none] [] w14 r w') ∧ (¬ ¬ v3 = 0 → (((lg_cmp ((w_l w14 54).getD 0 0) (v8.toInt64)) = 0 → gk_W (some xs) 8 0 23 [some (.ref 0), some (.ref 1), some (.ref 27), some (.ref 55), some (.int (x4 + 3)), none, none] [] w14 r w') ∧ (¬ ((lg_cmp ((w_l w14 54).getD 0 0) (v8.toInt64)) = 0) → (r = .inl (some (.int 0)) ∧ w' = w14)))))) ∧ (¬ (v13 = v3) → (r = .inl (some (.int 0)) ∧ w' = w14))))))) → gk_W (some xs) 8 0 23 [some (.ref 0), some (.ref 1), some (.ref 27), some (.ref 55), some (.int x4), none, none] [] w r w')
    (hC : CX c rr w cv v G D fa wd S) (hM : ∀ (w1 : gk_Wd) (r1 : List gk_S), gk_Sh r1 w1 → Fr CA CF w w1 → MX m r1 w1 cv v G D fa wd S) : Tn xs rr w x4 := by
  obtain ⟨w1, r1, e1, s1, x1, f1, c1, l1⟩ := hC
  obtain ⟨w2, e2, s2, f2, m2, i2⟩ := hM w1 r1 s1 f1
  have e3 := f_141_E (d := 7) s2
  have e4 : f_141 w2 = cv := i2
  refine ⟨w2, r1, s2, ⟨_, _, _, _, _, CV_N c1 f2, m2⟩, x1, fun r w' h => lw r w' ⟨o0, _, w1, r1, e1, s1, _, w2, r1, e2, s2, _, w2, r1, e3, s2, fun _ => ⟨fun _ => h, fun q => ⟨fun _ => h, fun q2 => absurd (lg_cmp_eq0.mpr ?_) q2⟩⟩, fun q => absurd e4 q⟩⟩
  rw [Fr_l f2 (by decide)]
  exact l1 (Decidable.not_not.mp q)
theorem l54_sh (hS : gk_Sh rr w) (v : Int64) : gk_Sh rr (w_sl w 54 ((w_l w 54).set 0 v)) := sh_ls hS ly_54 0 v
theorem l54_fr (v : List Int64) : Fr [54] [] w (w_sl w 54 v) := Fr_sl (by decide) _
theorem l54_at (hS : gk_Sh rr w) (v : Int64) : (w_l (w_sl w 54 ((w_l w 54).set 0 v)) 54).getD 0 0 = v := by
  rw [w_l_same hS ly_54]
  have := (w_lng hS ly_54).2
  rw [List.getD_eq_getElem?_getD, List.getElem?_set_self (by omega)]; rfl
theorem CV_54 (h : CV w G D fa wd S) (v : List Int64) : CV (w_sl w 54 v) G D fa wd S := CV_Fr h (l54_fr v) (by decide) (by decide)
def lnO : Option (List Rl) → Int32
  | some K => Int32.ofNat K.length
  | none => 0
/-- behind the cleaning of the reference -/
theorem M172 {o : Option (List Rl)} (hs : srt G) (m0 : MV w G D fa wd S) (s1 : gk_Sh rr w1) (f1 : Fr A F w w1) (hA : 27 ∉ A ∧ 43 ∉ A ∧ 46 ∉ A) (hF : (26, 1) ∉ F ∧ (26, 3) ∉ F ∧ (26, 24) ∉ F ∧ (26, 28) ∉ F) (hA2 : ∀ a ∈ A, a ∈ NA) (hF2 : ∀ q ∈ F, q ∈ NF) (h32 : RM w1 32 48 G) (i0 : w_i w1 26 0 = 0) (h1 : ∀ K, o = some K → MA w1 (false, K)) (h2 : o = none → ∃ K, MA w1 (true, K)) :
    ∃ (w' : gk_Wd), gk_E 6 172 [.ref 27] w1 (.inl (some (.int (lnO o)))) w' ∧ gk_Sh rr w' ∧ Fr NA NF w w' ∧ MV w' (o.getD G) D fa wd (if G = o.getD G then S else []) ∧ w_i w' 26 0 = (if o.isSome then 0 else 1) := by
  cases o with
  | some K =>
    have hk := h1 K rfl
    obtain ⟨w2, e2, s2, f2, i2⟩ := E172_ok (d := 4) s1 hk.1 h32 (by rw [hk.2.2]; rfl)
    have k2 := RM_Fr hk.1 f2 (by decide) (by decide)
    have hL : LQ w1 26 28 46 10 S := LQ_Fr m0.2.2.2.2 f1 hA.2.2 hF.2.2.2
    have b1 : LQ w1 26 1 27 9 D := LQ_Fr m0.2.1 f1 hA.1 hF.1
    have b2 : WM w1 wd := WM_Fr m0.2.2.2.1 f1 hA.2.1 hF.2.2.1
    have b3 : w_i w1 26 3 = fa := by rw [Fr_i f1 hF.2.1]; exact m0.2.2.1
    refine ⟨w2, e2, s2, Fr_trans (Fr_mono f1 hA2 hF2) (fr_n f2), ⟨k2, LQ_Fr b1 f2 (by decide) (by decide), by rw [Fr_i f2 (by decide)]; exact b3, WM_Fr b2 f2 (by decide) (by decide), ?_⟩, by rw [Fr_i f2 (by decide)]; exact i0⟩
    by_cases he : K = G
    · rw [if_pos he] at i2
      subst he
      show LQ w2 26 28 46 10 (if K = K then S else [])
      rw [if_pos rfl]
      exact ⟨by rw [i2]; exact hL.1, hL.2.1, by rw [Fr_a f2 (by decide)]; exact hL.2.2⟩
    · rw [if_neg he] at i2
      show LQ w2 26 28 46 10 (if G = K then S else [])
      rw [if_neg (fun q => he q.symm)]
      exact LQ_nil i2
  | none =>
    obtain ⟨K, hk⟩ := h2 rfl
    obtain ⟨w2, e2, s2, f2, q2, i2⟩ := E172_no (d := 4) s1 h32 (by rw [hk.2.2]; exact (by decide : ¬ bI true = 0))
    show ∃ w', _ ∧ _ ∧ _ ∧ MV w' G D fa wd (if G = G then S else []) ∧ _
    rw [if_pos rfl]
    have b0 : LQ w1 26 28 46 10 S := LQ_Fr m0.2.2.2.2 f1 hA.2.2 hF.2.2.2
    have b1 : LQ w1 26 1 27 9 D := LQ_Fr m0.2.1 f1 hA.1 hF.1
    have b2 : WM w1 wd := WM_Fr m0.2.2.2.1 f1 hA.2.1 hF.2.2.1
    have b3 : w_i w1 26 3 = fa := by rw [Fr_i f1 hF.2.1]; exact m0.2.2.1
    exact ⟨w2, e2, s2, Fr_trans (Fr_mono f1 hA2 hF2) (fr_n f2), ⟨q2, LQ_Fr b1 f2 (by decide) (by decide), by rw [Fr_i f2 (by decide)]; exact b3, WM_Fr b2 f2 (by decide) (by decide), LQ_Fr b0 f2 (by decide) (by decide)⟩, i2⟩
end CN
