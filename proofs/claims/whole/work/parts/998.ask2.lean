/-! part 78: language, ways, derive: one turn of each -/
section AL
variable {xs : List Int32} {rr r1 : List gk_S} {w w' w1 w2 : gk_Wd} {G H K : List Rl} {D S : List Int32} {fa x4 : Int32} {wd : List Nat} {d : Nat}
theorem bI_ne {b : Bool} : ¬ bI b = 0 ↔ b = true := by cases b <;> decide
theorem bI_nn {b : Bool} : ¬ ¬ bI b = 0 ↔ b = false := by cases b <;> decide
theorem v_eq {a b : Int32} (h : a = b) : (Sum.inl (some (.int a)) : gk_Res) = Sum.inl (some (.int b)) := by rw [h]
theorem isU_nil {P : Nat → Bool} (hP : isP true G P) (h0 : P 0 = false) (h : isU G H) : H = [] := by
  obtain ⟨S, T, hS, hT, rfl⟩ := h
  obtain rfl := isP_uniq hS hP
  apply List.filter_eq_nil_iff.mpr
  intro r hr ht
  have hr2 := (List.mem_filter.mp hr).2
  have hv := hT.2 (fun v => decide (v = 0)) ⟨by simp, fun r' hr' q => by
    have h3 := (List.mem_filter.mp hr').2
    simp only [decide_eq_true_eq] at q
    rw [q, h0] at h3
    simp at h3⟩ r.1 ht
  simp only [decide_eq_true_eq] at hv
  rw [hv, h0] at hr2
  simp at hr2
theorem fin_nil {b : Bool} (h : finR [] b) : b = true := by
  obtain ⟨T, S, -, -, h⟩ := h
  exact h.mpr (by simp)
theorem c_12 (hS : gk_Sh rr w) (hc : CV w G D fa wd S) (x : Int32) : ∃ (b : Bool) (w1 : gk_Wd), ((x = 0 ∧ ∃ P, isP true G P ∧ b = !P 0) ∨ (x = 1 ∧ ∃ H, isU G H ∧ finR H b) ∨ (x = 2 ∧ ∃ P, isP false G P ∧ b = P 0) ∨ ((x < 0 ∨ ¬ x ≤ 2) ∧ b = false)) ∧ gk_E 7 43 [.ref 1, .int x] w (.inl (some (.int (bI b)))) w1 ∧ gk_Sh rr w1 ∧ Fr CA CF w w1 ∧ CV w1 G D fa wd S := by
  by_cases x0 : x = 0
  · subst x0
    obtain ⟨Y, hY, e1⟩ := E31 (d := 3) hS rs_3 hc.1
    have z : f_36 Y 0 = 0 ↔ bt Y 0 = false := f_36_0 Y (v := 0) (by omega)
    refine ⟨!bt Y 0, w, Or.inl ⟨rfl, bt Y, hY, rfl⟩, gk_E_i rfl rfl (sg_43_0 (d := 6) hS _ ⟨fun _ => ⟨_, e1, fun q => ⟨?_, rfl⟩, fun q => ⟨?_, rfl⟩⟩, fun q => absurd q (by decide), fun q => absurd q (by decide), fun q => absurd q (by decide)⟩), hS, Fr_refl, hc⟩
    · rw [z, Bool.not_eq_false] at q; rw [q]; rfl
    · rw [z, Bool.not_eq_false] at q; rw [Bool.not_eq_true] at q; rw [q]; rfl
  · by_cases x1 : x = 1
    · subst x1
      obtain ⟨w1, e1, s1, f1, q1⟩ := E20 (d := 6) hS rs_5 rs_3 (by decide) hc.1
      obtain ⟨H, w2, u2, e2, s2, f2, q2⟩ := E30 (d := 2) s1 rs_5 q1
      obtain ⟨b, w3, b3, e3, s3, f3⟩ := E44 (d := 3) s2 q2
      refine ⟨b, w3, Or.inr (Or.inl ⟨rfl, H, u2, b3⟩), gk_E_i rfl rfl (sg_43_0 (d := 6) hS _ ⟨fun q => absurd q (by decide), fun _ => ⟨w1, e1, s1, _, w2, e2, s2, _, w3, e3, s3, bI_b _, rfl, rfl⟩, fun q => absurd q (by decide), fun q => absurd q (by decide)⟩), s3, Fr_trans (fr_c f1) (Fr_trans (fr_c f2) (fr_c f3)), CV_Fr (CV_Fr (CV_Fr hc f1 (by decide) (by decide)) f2 (by decide) (by decide)) f3 (by decide) (by decide)⟩
    · by_cases x2 : x = 2
      · subst x2
        obtain ⟨Y, hY, e1⟩ := E50 (d := 3) hS rs_3 hc.1
        have z : f_36 Y 0 = bI (bt Y 0) := f_36_eq Y (v := 0) (by omega)
        refine ⟨bt Y 0, w, Or.inr (Or.inr (Or.inl ⟨rfl, bt Y, hY, rfl⟩)), gk_E_i rfl rfl (sg_43_0 (d := 6) hS _ ⟨fun q => absurd q (by decide), fun q => absurd q (by decide), fun _ => ⟨_, e1, by rw [z]; exact bI_b _, by rw [z], rfl⟩, fun q => absurd q (by decide)⟩), hS, Fr_refl, hc⟩
      · have hx : x < 0 ∨ ¬ x ≤ 2 := by
          rw [Int32.lt_iff_toInt_lt, Int32.le_iff_toInt_le]
          have h0 : (0 : Int32).toInt = 0 := by decide
          have h2 : (2 : Int32).toInt = 2 := by decide
          rw [h0, h2]
          have n0 : x.toInt ≠ 0 := fun q => x0 (Int32.toInt_inj.mp (q.trans h0.symm))
          have n1 : x.toInt ≠ 1 := fun q => x1 (Int32.toInt_inj.mp (q.trans (by decide)))
          have n2 : x.toInt ≠ 2 := fun q => x2 (Int32.toInt_inj.mp (q.trans h2.symm))
          omega
        exact ⟨false, w, Or.inr (Or.inr (Or.inr ⟨hx, rfl⟩)), gk_E_i rfl rfl (sg_43_0 (d := 6) hS _ ⟨fun q => absurd q x0, fun q => absurd q x1, fun q => absurd q x2, fun _ => ⟨rfl, rfl⟩⟩), hS, Fr_refl, hc⟩
theorem m_12 (hS : gk_Sh rr w) (hm : MV w G D fa wd S) {x : Int32} {b : Bool} (hb : (x = 0 ∧ ∃ P, isP true G P ∧ b = !P 0) ∨ (x = 1 ∧ ∃ H, isU G H ∧ finR H b) ∨ (x = 2 ∧ ∃ P, isP false G P ∧ b = P 0) ∨ ((x < 0 ∨ ¬ x ≤ 2) ∧ b = false)) : MC 192 [.ref 27, .int x] rr w (bI b) G D fa wd S := by
  have m0 := m0_mv hm
  have s0 := m0_sh hS
  have f0 : Fr NA NF w (w_si w 26 0 0) := m0_fr
  rcases hb with ⟨rfl, P, hP, rfl⟩ | ⟨rfl, H, hU, hF⟩ | ⟨rfl, P, hP, rfl⟩ | ⟨hx, rfl⟩
  · obtain ⟨w1, P', e1, s1, f1, a1, p1⟩ := E162 (d := 5) s0 m0.1
    obtain rfl := isP_uniq hP p1
    have ea : (w_a w1 36).getD 0 0 = bI (P 0) := a1 0 (by omega)
    refine ⟨w1, gk_E_i rfl rfl (sg_192_0 (d := 6) hS _ ⟨fun q => absurd q (by decide), fun _ => ⟨fun _ => ⟨fun _ => ⟨w1, e1, s1, fun q => absurd rfl q, fun _ => ⟨fun q => ⟨?_, rfl⟩, fun q => ⟨?_, rfl⟩⟩⟩, fun q => absurd (by decide) q⟩, fun q => absurd (by decide) q⟩⟩), s1, Fr_trans f0 (fr_n f1), MV_Fr m0 f1 (by decide) (by decide)⟩
    · rw [ea, bI_ne] at q; rw [q]; rfl
    · rw [ea, bI_nn] at q; rw [q]; rfl
  · obtain ⟨w1, P, e1, s1, f1, a1, p1⟩ := E162 (d := 5) s0 m0.1
    have ea : (w_a w1 36).getD 0 0 = bI (P 0) := a1 0 (by omega)
    have m1 := MV_Fr m0 f1 (by decide) (by decide)
    rcases hP : P 0 with _ | _
    · obtain rfl := isU_nil p1 hP hU
      obtain rfl := fin_nil hF
      refine ⟨w1, gk_E_i rfl rfl (sg_192_0 (d := 6) hS _ ⟨fun q => absurd q (by decide), fun _ => ⟨fun _ => ⟨fun _ => ⟨w1, e1, s1, fun _ => ⟨fun q => absurd ?_ q, fun q => ⟨rfl, rfl⟩⟩, fun q => absurd (by decide) q⟩, fun q => absurd (by decide) q⟩, fun q => absurd (by decide) q⟩⟩), s1, Fr_trans f0 (fr_n f1), m1⟩
      rw [ea, hP]; rfl
    · obtain ⟨w2, e2, s2, f2, q2, i2⟩ := E147 (d := 5) s1 m1.1
      have m2 := MV_Fr m1 f2 (by decide) (by decide)
      obtain ⟨H', w3, u3, e3, s3, f3, q3⟩ := E161 (d := 4) s2 m2.1
      obtain rfl := isU_uniq hU u3
      obtain ⟨b', w4, b4, e4, s4, f4⟩ := E193 (d := 4) s3 q3
      have q4 : RM w4 8 31 G := RM_Fr (RM_Fr q2 f3 (by decide) (by decide)) f4 (by decide) (by decide)
      obtain ⟨w5, e5, s5, f5, q5⟩ := E174 (d := 6) s4 q4
      obtain rfl := finR_uniq hF b4
      have m3 := MV_G m2 f3 q3 (by decide) (by decide)
      have m4 := MV_Fr m3 f4 (by decide) (by decide)
      have m5 := MV_G m4 f5 q5 (by decide) (by decide)
      refine ⟨w5, gk_E_i rfl rfl (sg_192_0 (d := 6) hS _ ⟨fun q => absurd q (by decide), fun _ => ⟨fun _ => ⟨fun _ => ⟨w1, e1, s1, fun _ => ⟨fun _ => ⟨w2, e2, s2, _, w3, e3, s3, _, w4, e4, s4, w5, e5, s5, fun q => ⟨?_, rfl⟩, fun q => ⟨?_, rfl⟩⟩, fun q => absurd ?_ q⟩, fun q => absurd (by decide) q⟩, fun q => absurd (by decide) q⟩, fun q => absurd (by decide) q⟩⟩), s5, Fr_trans f0 (Fr_trans (fr_n f1) (Fr_trans (fr_n f2) (Fr_trans (fr_n f3) (Fr_trans (fr_n f4) (fr_n f5))))), m5⟩
      · rw [bI_ne] at q; rw [q]; rfl
      · rw [bI_nn] at q; rw [q]; rfl
      · rw [ea, hP]; decide
  · obtain ⟨w1, P', e1, s1, f1, a1, p1⟩ := E169 (d := 4) s0 m0.1
    obtain rfl := isP_uniq hP p1
    have ea : (w_a w1 38).getD 0 0 = bI (P 0) := a1 0 (by omega)
    exact ⟨w1, gk_E_i rfl rfl (sg_192_0 (d := 6) hS _ ⟨fun q => absurd q (by decide), fun _ => ⟨fun _ => ⟨fun q => absurd rfl q, fun _ => ⟨w1, e1, s1, by rw [ea]; exact bI_b _, by rw [ea], rfl⟩⟩, fun q => absurd (by decide) q⟩⟩), s1, Fr_trans f0 (fr_n f1), MV_Fr m0 f1 (by decide) (by decide)⟩
  · refine ⟨_, gk_E_i rfl rfl (sg_192_0 (d := 6) hS _ ⟨fun _ => ⟨rfl, rfl⟩, fun q => ⟨fun q2 => ?_, fun _ => ⟨rfl, rfl⟩⟩⟩), s0, f0, m0⟩
    rcases hx with hx | hx
    · exact absurd hx q
    · exact absurd q2 hx
/-- language -/
theorem t_12 (hS : gk_Sh rr w) (hI : Inv w) (hn : ¬ ((Int32.ofNat xs.length) - 3) < x4) (hx : (xs.getD x4.toNatClampNeg 0) &&& 31 = 12) (o0 : gk_out x4 xs.length = false) (o1 : gk_out (x4 + 1) xs.length = false) : Tn xs rr w x4 := by
  obtain ⟨G, D, fa, wd, S, hc, hm⟩ := hI
  obtain ⟨b, w1, hb, e1, s1, f1, c1⟩ := c_12 hS hc (xs.getD (x4 + 1).toNatClampNeg 0)
  obtain ⟨w2, e2, s2, f2, m2⟩ := m_12 s1 (MV_C hm f1) hb
  exact ⟨w2, rr, s2, ⟨_, _, _, _, _, CV_N c1 f2, m2⟩, Or.inl rfl, fun r w' h => lw_op12 hS x4 hn hx ⟨o0, o1, _, w1, rr, e1, s1, o1, _, w2, rr, e2, s2, fun _ => h, fun q => absurd rfl q⟩⟩
theorem wk_1 {r : Rl} (h1 : ¬ r.2.length = 0) (h2 : unB r = false) : wkB r = true := by
  unfold wkB neB; rw [decide_eq_false h1, h2]; rfl
theorem all_of {p : Rl → Bool} (h : ∀ (j : Nat) (hj : j < G.length), p G[j] = true) : G.all p = true := by
  rw [List.all_eq_true]
  intro r hr
  obtain ⟨j, hj, rfl⟩ := List.getElem_of_mem hr
  exact h j hj
theorem all_no {p : Rl → Bool} {j : Nat} (hj : j < G.length) (h : ¬ p G[j] = true) : G.all p = false := by
  rw [Bool.eq_false_iff]
  exact fun q => h (List.all_eq_true.mp q _ (List.getElem_mem hj))
theorem E128_l (hS : gk_Sh rr w) (hR : RS w 3 G) {r : gk_Res} {w' : gk_Wd} (hd : 5 ≤ d + 2) (h1 : G.all wkB = true → ∃ (v3 : Int32) (w4 : gk_Wd), gk_E (d + 1) 129 [.ref 20, .ref 4] w (.inl (some (.int v3))) w4 ∧ gk_Sh rr w4 ∧ (r = .inl (some (.int v3)) ∧ w' = w4)) (h2 : G.all wkB = false → r = .inr 11 ∧ w' = w ++ [.inl (11, [])]) :
    ∀ (m k : Nat), k + m = G.length → (∀ (j : Nat) (hj : j < G.length), j < k → wkB G[j] = true) → gk_W none (d + 2) 128 2 [some (.ref 1), some (.int (Int32.ofNat k))] [] w r w'
  | 0, k, hk, hp => by
    have := RS_60 hR
    exact sg_128_2 hS _ ⟨fun _ => h1 (all_of fun j hj => hp j hj (by omega)), fun q => absurd ((RS_le hR (by omega)).mpr (by omega)) q⟩
  | m + 1, k, hk, hp => by
    have := RS_60 hR
    have hkl : k < G.length := by omega
    have hok := RS_ok hR hkl
    have ef : f_23 w 3 (Int32.ofNat k) = pk G[k] := RS_at hR hkl
    refine sg_128_2 hS _ ⟨fun q => absurd ((RS_le hR (by omega)).mp q) (by omega), fun _ => ⟨RS_out hR hkl, ?_⟩⟩
    rw [ef, f_39_pk hok, f_40_pk hok]
    refine ⟨fun q => ⟨hd, h2 (all_no hkl ?_)⟩, fun q => ⟨RS_out hR hkl, fun q2 => ?_, fun q2 => ⟨hd, h2 (all_no hkl ?_)⟩⟩⟩
    · unfold wkB neB; rw [decide_eq_true (Decidable.not_not.mp q)]; simp
    · rw [i_s]
      refine E128_l hS hR hd h1 h2 m (k + 1) (by omega) (fun j hj hjk => ?_)
      by_cases e : j = k
      · subst e; exact wk_1 q q2
      · exact hp j hj (by omega)
    · unfold wkB; rw [Bool.not_eq_false] at q2; rw [q2]; simp
theorem c_19 (hS : gk_Sh rr w) (hc : CV w G D fa wd S) : CX 127 rr w (if G.all wkB = true then 0 else 1) (if G.all wkB = true then Int32.ofNat (wsN wd G) else 0) G D fa wd S := by
  by_cases hG : G.all wkB = true
  · rw [if_pos hG, if_pos hG]
    obtain ⟨w1, e1, s1, f1⟩ := E129 (d := 0) hS hc.1 hc.2.2.2.2.1 (fun r hr => wkB_ok (List.all_eq_true.mp hG r hr))
    have e2 : gk_E 6 128 [.ref 1] w (.inl (some (.int (Int32.ofNat (wsN wd G))))) w1 := gk_E_i rfl rfl (sg_128_0 (d := 4) hS (E128_l (d := 4) hS hc.1 (by omega) (fun _ => ⟨_, w1, e1, s1, rfl, rfl⟩) (fun q => absurd hG (by rw [q]; decide)) G.length 0 (by omega) (fun j hj q => absurd q (by omega))))
    exact ⟨_, rr, gk_E_i rfl rfl (sg_127_ok (d := 6) hS ⟨_, w1, rr, e2, s1, rfl, rfl⟩), l54_sh s1 _, Or.inl rfl, Fr_trans (fr_c f1) (fr_c (l54_fr _)), CV_54 (CV_Fr hc f1 (by decide) (by decide)) _, fun _ => l54_at s1 _⟩
  · rw [if_neg hG, if_neg hG]
    have e2 : gk_E 6 128 [.ref 1] w (.inr 11) (w ++ [.inl (11, [])]) := gk_E_i rfl rfl (sg_128_0 (d := 4) hS (E128_l (d := 4) hS hc.1 (by omega) (fun q => absurd q hG) (fun _ => ⟨rfl, rfl⟩) G.length 0 (by omega) (fun j hj q => absurd q (by omega))))
    exact ⟨_, _, gk_E_i rfl rfl (sg_127_t11 (d := 6) hS ⟨_, _, e2, sh_thr hS 11, rfl, rfl⟩), sh_thr hS 11, Or.inr ⟨11, by simp, rfl⟩, Fr_thr 11, CV_Fr (A := []) (F := []) hc (Fr_thr 11) (by decide) (by decide), fun q => absurd q (by decide)⟩
theorem m_19 (hS : gk_Sh rr w) (hm : MV w G D fa wd S) : MX 208 rr w (if G.all wkB = true then 0 else 1) (if G.all wkB = true then Int32.ofNat (wsN wd G) else 0) G D fa wd S := by
  by_cases hG : G.all wkB = true
  · rw [if_pos hG, if_pos hG]
    obtain ⟨w1, e1, s1, f1, i1⟩ := E208_y (d := 4) hS hm.1 hm.2.2.2.1 hG
    exact ⟨w1, e1, s1, fr_n f1, MV_Fr hm f1 (by decide) (by decide), i1⟩
  · rw [if_neg hG, if_neg hG]
    obtain ⟨w1, e1, s1, f1, i1⟩ := E208_n (d := 5) hS hm.1 (Bool.eq_false_iff.mpr hG)
    exact ⟨w1, e1, s1, fr_n f1, MV_Fr hm f1 (by decide) (by decide), i1⟩
theorem t_19 (hS : gk_Sh rr w) (hI : Inv w) (hn : ¬ ((Int32.ofNat xs.length) - 3) < x4) (hx : (xs.getD x4.toNatClampNeg 0) &&& 31 = 19) (o0 : gk_out x4 xs.length = false) : Tn xs rr w x4 := by
  obtain ⟨G, D, fa, wd, S, hc, hm⟩ := hI
  exact t_ex (c := 127) (m := 208) o0 (fun r w' h => lw_op19 hS x4 hn hx h) (c_19 hS hc) (fun w1 r1 s1 f1 => m_19 s1 (MV_C hm f1))
end AL
