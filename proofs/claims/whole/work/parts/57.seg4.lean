/-! printed by wip/whole/sym.py: from cut to cut: 143 rule, 144 faultOf, 146 fail, 147 save, 148 copyOld, 149 add, 150 compare, 152 setRule, 153 place, 155 takeOut, 156 clear, 157 rules, 160 useful, 161 takeUseless, 162 findFruitful, 164 isBarren, 165 findReached, 166 solid, 167 keepAll -/
set_option maxRecDepth 8000 in
/-- GrammarDeskModel.rule()I, at 0 -/
theorem sg_143_0 {d : Nat} {rr : List gk_S} {w w' : gk_Wd} {r : gk_Res} (hS : gk_Sh rr w)
    (h : (∃ (v2 : Int32), gk_E d 144 [.ref 27] (w_si w 26 0 0) (.inl (some (.int v2))) (w_si w 26 0 0) ∧ (((w_i (w_si (w_si (w_si w 26 0 0) 26 3 v2) 26 1 0) 26 3) < 0 → (∃ (w5 : gk_Wd), gk_E d 147 [.ref 27] (w_si (w_si (w_si w 26 0 0) 26 3 v2) 26 1 0) (.inl none) w5 ∧ gk_Sh rr w5 ∧ gk_W none (d + 1) 143 49 [some (.ref 27), none, some (.int 0)] [] (w_si w5 26 12 ((w_i (w_si (w_si w 26 0 0) 26 3 v2) 26 1) - 2)) r w')) ∧ (¬ ((w_i (w_si (w_si (w_si w 26 0 0) 26 3 v2) 26 1 0) 26 3) < 0) → (∃ (v8 : Int32), ∃ (w9 : gk_Wd), gk_E d 146 [.ref 27, .int 1] (w_si (w_si (w_si w 26 0 0) 26 3 v2) 26 1 0) (.inl (some (.int v8))) w9 ∧ gk_Sh rr w9 ∧ (r = .inl (some (.int v8)) ∧ w' = w9)))))) :
    gk_W none (d + 1) 143 0 [some (.ref 27), none, none] [] w r w' := by
  refine gk_W_s 2 (pc1 := 2) (l1 := [some (.ref 27), none, none]) (st1 := [.int 0, .ref 27]) rfl ?_
  refine gk_W_h (i := .putfield 97) 5 rfl rfl (h_pi (a := 26) (k := 0) (x := 0) hS ly_26 rfl rfl) rfl ?_
  refine gk_W_s 2 (pc1 := 7) (l1 := [some (.ref 27), none, none]) (st1 := [.ref 27, .ref 27]) rfl ?_
  obtain ⟨v2, hE1, h⟩ := h
  refine gk_W_c (i := .invokevirtual 148) [.int v2, .ref 27] 10 rfl rfl (c_v (a := 26) (sh_si hS ly_26 (k := 0) rfl 0) ly_26 rfl rfl (Nat.le_of_ble_eq_true rfl)) hE1 rfl rfl ?_
  refine gk_W_h (i := .putfield 13) 13 rfl rfl (h_pi (a := 26) (k := 3) (x := v2) (sh_si hS ly_26 (k := 0) rfl 0) ly_26 rfl rfl) rfl ?_
  refine gk_W_s 1 (pc1 := 14) (l1 := [some (.ref 27), none, none]) (st1 := [.ref 27]) rfl ?_
  refine gk_W_h (i := .getfield 141) 17 rfl rfl (h_gi (a := 26) (k := 1) (sh_si (sh_si hS ly_26 (k := 0) rfl 0) ly_26 (k := 3) rfl v2) ly_26 rfl) rfl ?_
  refine gk_W_s 3 (pc1 := 20) (l1 := [some (.ref 27), some (.int (w_i (w_si (w_si w 26 0 0) 26 3 v2) 26 1)), none]) (st1 := [.int 0, .ref 27]) rfl ?_
  refine gk_W_h (i := .putfield 141) 23 rfl rfl (h_pi (a := 26) (k := 1) (x := 0) (sh_si (sh_si hS ly_26 (k := 0) rfl 0) ly_26 (k := 3) rfl v2) ly_26 rfl rfl) rfl ?_
  refine gk_W_s 1 (pc1 := 24) (l1 := [some (.ref 27), some (.int (w_i (w_si (w_si w 26 0 0) 26 3 v2) 26 1)), none]) (st1 := [.ref 27]) rfl ?_
  refine gk_W_h (i := .getfield 13) 27 rfl rfl (h_gi (a := 26) (k := 3) (sh_si (sh_si (sh_si hS ly_26 (k := 0) rfl 0) ly_26 (k := 3) rfl v2) ly_26 (k := 1) rfl 0) ly_26 rfl) rfl ?_
  refine gk_W_b 1 ((w_i (w_si (w_si (w_si w 26 0 0) 26 3 v2) 26 1 0) 26 3) < 0) (t := 36) (e := 30) (l1 := [some (.ref 27), some (.int (w_i (w_si (w_si w 26 0 0) 26 3 v2) 26 1)), none]) (st1 := []) rfl (fun hp3 => ?_) (fun hp3 => ?_)
  · have h := h.1 hp3
    refine gk_W_s 1 (pc1 := 37) (l1 := [some (.ref 27), some (.int (w_i (w_si (w_si w 26 0 0) 26 3 v2) 26 1)), none]) (st1 := [.ref 27]) rfl ?_
    obtain ⟨w5, hE4, hS6, h⟩ := h
    refine gk_W_c (i := .invokevirtual 152) [] 40 rfl rfl (c_v (a := 26) (sh_si (sh_si (sh_si hS ly_26 (k := 0) rfl 0) ly_26 (k := 3) rfl v2) ly_26 (k := 1) rfl 0) ly_26 rfl rfl (Nat.le_of_ble_eq_true rfl)) hE4 rfl rfl ?_
    refine gk_W_s 4 (pc1 := 44) (l1 := [some (.ref 27), some (.int (w_i (w_si (w_si w 26 0 0) 26 3 v2) 26 1)), none]) (st1 := [.int ((w_i (w_si (w_si w 26 0 0) 26 3 v2) 26 1) - 2), .ref 27]) rfl ?_
    refine gk_W_h (i := .putfield 100) 47 rfl rfl (h_pi (a := 26) (k := 12) (x := (w_i (w_si (w_si w 26 0 0) 26 3 v2) 26 1) - 2) hS6 ly_26 rfl rfl) rfl ?_
    refine gk_W_s 2 (pc1 := 49) (l1 := [some (.ref 27), some (.int (w_i (w_si (w_si w 26 0 0) 26 3 v2) 26 1)), some (.int 0)]) (st1 := []) rfl ?_
    exact gk_W_le (gk_le_s (gk_le_n (gk_le_s (gk_le_0)))) h
  · have h := h.2 hp3
    refine gk_W_s 2 (pc1 := 32) (l1 := [some (.ref 27), some (.int (w_i (w_si (w_si w 26 0 0) 26 3 v2) 26 1)), none]) (st1 := [.int 1, .ref 27]) rfl ?_
    obtain ⟨v8, w9, hE7, hS10, h⟩ := h
    refine gk_W_c (i := .invokevirtual 130) [.int v8] 35 rfl rfl (c_v (a := 26) (sh_si (sh_si (sh_si hS ly_26 (k := 0) rfl 0) ly_26 (k := 3) rfl v2) ly_26 (k := 1) rfl 0) ly_26 rfl rfl (Nat.le_of_ble_eq_true rfl)) hE7 rfl rfl ?_
    obtain ⟨rfl, rfl⟩ := h
    exact gk_W_r (i := .ireturn) rfl rfl rfl
set_option maxRecDepth 8000 in
/-- GrammarDeskModel.rule()I, at 49 -/
theorem sg_143_49 {d : Nat} {rr : List gk_S} {w w' : gk_Wd} {r : gk_Res} (hS : gk_Sh rr w) (x2 : Int32)
    (h : (((w_i w 26 12) ≤ x2 → (∃ (v3 : Int32), ∃ (w4 : gk_Wd), gk_E d 149 [.ref 27, .int (f_145 ((w_a w 27).getD 0 0) 72)] w (.inl (some (.int v3))) w4 ∧ gk_Sh rr w4 ∧ (((w_i w4 26 14) = 0 → (((w_i w4 26 4) = (w_i w4 26 8) → (r = .inl (some (.int v3)) ∧ w' = w4)) ∧ (¬ ((w_i w4 26 4) = (w_i w4 26 8)) → (r = .inl (some (.int v3)) ∧ w' = w_si w4 26 28 0)))) ∧ (¬ ((w_i w4 26 14) = 0) → (∃ (v9 : Int32), ∃ (w10 : gk_Wd), gk_E d 146 [.ref 27, .int 2] w4 (.inl (some (.int v9))) w10 ∧ gk_Sh rr w10 ∧ (r = .inl (some (.int v9)) ∧ w' = w10)))))) ∧ (¬ ((w_i w 26 12) ≤ x2) → (gk_out (x2 + 2) 9 = false ∧ (gk_out x2 24 = false ∧ gk_W none (d + 1) 143 49 [some (.ref 27), none, some (.int (x2 + 1))] [] (w_sa w 34 ((w_a w 34).set x2.toNatClampNeg (f_145 ((w_a w 27).getD (x2 + 2).toNatClampNeg 0) 72))) r w'))))) :
    gk_W none (d + 1) 143 49 [some (.ref 27), none, some (.int x2)] [] w r w' := by
  refine gk_W_s 2 (pc1 := 51) (l1 := [some (.ref 27), none, some (.int x2)]) (st1 := [.ref 27, .int x2]) rfl ?_
  refine gk_W_h (i := .getfield 100) 54 rfl rfl (h_gi (a := 26) (k := 12) hS ly_26 rfl) rfl ?_
  refine gk_W_b 1 ((w_i w 26 12) ≤ x2) (t := 82) (e := 57) (l1 := [some (.ref 27), none, some (.int x2)]) (st1 := []) rfl (fun hp1 => ?_) (fun hp1 => ?_)
  · have h := h.1 hp1
    refine gk_W_s 2 (pc1 := 84) (l1 := [some (.ref 27), none, some (.int x2)]) (st1 := [.ref 27, .ref 27]) rfl ?_
    refine gk_W_h (i := .getfield 7) 87 rfl rfl (h_gr (a := 26) (k := 2) (m := 28) hS ly_26 rfl) rfl ?_
    refine gk_W_s 1 (pc1 := 88) (l1 := [some (.ref 27), none, some (.int x2)]) (st1 := [.int 0, .ref 28, .ref 27]) rfl ?_
    refine gk_W_h (i := .caload) 89 rfl rfl (h_al (a := 27) (scr := none) hS ly_27 rfl) rfl ?_
    refine gk_W_s 1 (pc1 := 91) (l1 := [some (.ref 27), none, some (.int x2)]) (st1 := [.int 72, .int ((w_a w 27).getD 0 0), .ref 27]) rfl ?_
    refine gk_W_c (i := .invokestatic 144) [.int (f_145 ((w_a w 27).getD 0 0) 72), .ref 27] 94 rfl rfl rfl (f_145_E ((w_a w 27).getD 0 0) 72) rfl rfl ?_
    obtain ⟨v3, w4, hE2, hS5, h⟩ := h
    refine gk_W_c (i := .invokevirtual 155) [.int v3] 97 rfl rfl (c_v (a := 26) hS ly_26 rfl rfl (Nat.le_of_ble_eq_true rfl)) hE2 rfl rfl ?_
    refine gk_W_s 2 (pc1 := 99) (l1 := [some (.ref 27), none, some (.int v3)]) (st1 := [.ref 27]) rfl ?_
    refine gk_W_h (i := .getfield 107) 102 rfl rfl (h_gi (a := 26) (k := 14) hS5 ly_26 rfl) rfl ?_
    refine gk_W_b 1 ((w_i w4 26 14) = 0) (t := 111) (e := 105) (l1 := [some (.ref 27), none, some (.int v3)]) (st1 := []) rfl (fun hp6 => ?_) (fun hp6 => ?_)
    · have h := h.1 hp6
      refine gk_W_s 1 (pc1 := 112) (l1 := [some (.ref 27), none, some (.int v3)]) (st1 := [.ref 27]) rfl ?_
      refine gk_W_h (i := .getfield 111) 115 rfl rfl (h_gi (a := 26) (k := 4) hS5 ly_26 rfl) rfl ?_
      refine gk_W_s 1 (pc1 := 116) (l1 := [some (.ref 27), none, some (.int v3)]) (st1 := [.ref 27, .int (w_i w4 26 4)]) rfl ?_
      refine gk_W_h (i := .getfield 124) 119 rfl rfl (h_gi (a := 26) (k := 8) hS5 ly_26 rfl) rfl ?_
      refine gk_W_b 1 ((w_i w4 26 4) = (w_i w4 26 8)) (t := 127) (e := 122) (l1 := [some (.ref 27), none, some (.int v3)]) (st1 := []) rfl (fun hp7 => ?_) (fun hp7 => ?_)
      · have h := h.1 hp7
        refine gk_W_s 1 (pc1 := 128) (l1 := [some (.ref 27), none, some (.int v3)]) (st1 := [.int v3]) rfl ?_
        obtain ⟨rfl, rfl⟩ := h
        exact gk_W_r (i := .ireturn) rfl rfl rfl
      · have h := h.2 hp7
        refine gk_W_s 2 (pc1 := 124) (l1 := [some (.ref 27), none, some (.int v3)]) (st1 := [.int 0, .ref 27]) rfl ?_
        refine gk_W_h (i := .putfield 138) 127 rfl rfl (h_pi (a := 26) (k := 28) (x := 0) hS5 ly_26 rfl rfl) rfl ?_
        refine gk_W_s 1 (pc1 := 128) (l1 := [some (.ref 27), none, some (.int v3)]) (st1 := [.int v3]) rfl ?_
        obtain ⟨rfl, rfl⟩ := h
        exact gk_W_r (i := .ireturn) rfl rfl rfl
    · have h := h.2 hp6
      refine gk_W_s 2 (pc1 := 107) (l1 := [some (.ref 27), none, some (.int v3)]) (st1 := [.int 2, .ref 27]) rfl ?_
      obtain ⟨v9, w10, hE8, hS11, h⟩ := h
      refine gk_W_c (i := .invokevirtual 130) [.int v9] 110 rfl rfl (c_v (a := 26) hS5 ly_26 rfl rfl (Nat.le_of_ble_eq_true rfl)) hE8 rfl rfl ?_
      obtain ⟨rfl, rfl⟩ := h
      exact gk_W_r (i := .ireturn) rfl rfl rfl
  · have h := h.2 hp1
    refine gk_W_s 1 (pc1 := 58) (l1 := [some (.ref 27), none, some (.int x2)]) (st1 := [.ref 27]) rfl ?_
    refine gk_W_h (i := .getfield 36) 61 rfl rfl (h_gr (a := 26) (k := 13) (m := 35) hS ly_26 rfl) rfl ?_
    refine gk_W_s 2 (pc1 := 63) (l1 := [some (.ref 27), none, some (.int x2)]) (st1 := [.ref 27, .int x2, .ref 35]) rfl ?_
    refine gk_W_h (i := .getfield 7) 66 rfl rfl (h_gr (a := 26) (k := 2) (m := 28) hS ly_26 rfl) rfl ?_
    refine gk_W_s 3 (pc1 := 69) (l1 := [some (.ref 27), none, some (.int x2)]) (st1 := [.int (x2 + 2), .ref 28, .int x2, .ref 35]) rfl ?_
    obtain ⟨hb12, h⟩ := h
    refine gk_W_h (i := .caload) 70 rfl rfl (h_al (a := 27) (scr := none) hS ly_27 hb12) rfl ?_
    refine gk_W_s 1 (pc1 := 72) (l1 := [some (.ref 27), none, some (.int x2)]) (st1 := [.int 72, .int ((w_a w 27).getD (x2 + 2).toNatClampNeg 0), .int x2, .ref 35]) rfl ?_
    refine gk_W_c (i := .invokestatic 144) [.int (f_145 ((w_a w 27).getD (x2 + 2).toNatClampNeg 0) 72), .int x2, .ref 35] 75 rfl rfl rfl (f_145_E ((w_a w 27).getD (x2 + 2).toNatClampNeg 0) 72) rfl rfl ?_
    obtain ⟨hb13, h⟩ := h
    refine gk_W_h (i := .iastore) 76 rfl rfl (h_as (a := 34) (t := 0) hS ly_34 hb13 rfl) rfl ?_
    refine gk_W_s 2 (pc1 := 49) (l1 := [some (.ref 27), none, some (.int (x2 + 1))]) (st1 := []) rfl ?_
    exact h
set_option maxRecDepth 8000 in
/-- GrammarDeskModel.faultOf()I, at 0 -/
theorem sg_144_0 {d : Nat} {rr : List gk_S} {w w' : gk_Wd} {r : gk_Res} (hS : gk_Sh rr w)
    (h : gk_W none (d + 1) 144 2 [some (.ref 27), some (.int 0), none, none] [] w r w') :
    gk_W none (d + 1) 144 0 [some (.ref 27), none, none, none] [] w r w' := by
  refine gk_W_s 2 (pc1 := 2) (l1 := [some (.ref 27), some (.int 0), none, none]) (st1 := []) rfl ?_
  exact h
set_option maxRecDepth 8000 in
/-- GrammarDeskModel.faultOf()I, at 2 -/
theorem sg_144_2 {d : Nat} {rr : List gk_S} {w w' : gk_Wd} {r : gk_Res} (hS : gk_Sh rr w) (x1 : Int32)
    (h : (((w_i w 26 1) ≤ x1 → ((2 ≤ (w_i w 26 1) → (r = .inl (some (.int ((-1)))) ∧ w' = w)) ∧ (¬ (2 ≤ (w_i w 26 1)) → (r = .inl (some (.int (w_i w 26 1))) ∧ w' = w)))) ∧ (¬ ((w_i w 26 1) ≤ x1) → (gk_out x1 9 = false ∧ ((¬ x1 = 0 → ((¬ x1 = 1 → ((8 ≤ x1 → (r = .inl (some (.int x1)) ∧ w' = w)) ∧ (¬ (8 ≤ x1) → (((f_145 ((w_a w 27).getD x1.toNatClampNeg 0) 72) < 0 → (r = .inl (some (.int x1)) ∧ w' = w)) ∧ (¬ ((f_145 ((w_a w 27).getD x1.toNatClampNeg 0) 72) < 0) → gk_W none (d + 1) 144 2 [some (.ref 27), some (.int (x1 + 1)), none, none] [] w r w'))))) ∧ (x1 = 1 → (gk_out x1 9 = false ∧ ((¬ ((w_a w 27).getD x1.toNatClampNeg 0) = 58 → (r = .inl (some (.int x1)) ∧ w' = w)) ∧ (((w_a w 27).getD x1.toNatClampNeg 0) = 58 → gk_W none (d + 1) 144 2 [some (.ref 27), some (.int (x1 + 1)), none, none] [] w r w')))))) ∧ (x1 = 0 → (((f_145 ((w_a w 27).getD x1.toNatClampNeg 0) 72) < 0 → (r = .inl (some (.int x1)) ∧ w' = w)) ∧ (¬ ((f_145 ((w_a w 27).getD x1.toNatClampNeg 0) 72) < 0) → ((16 ≤ (f_145 ((w_a w 27).getD x1.toNatClampNeg 0) 72) → (r = .inl (some (.int x1)) ∧ w' = w)) ∧ (¬ (16 ≤ (f_145 ((w_a w 27).getD x1.toNatClampNeg 0) 72)) → gk_W none (d + 1) 144 2 [some (.ref 27), some (.int (x1 + 1)), none, none] [] w r w')))))))))) :
    gk_W none (d + 1) 144 2 [some (.ref 27), some (.int x1), none, none] [] w r w' := by
  refine gk_W_s 2 (pc1 := 4) (l1 := [some (.ref 27), some (.int x1), none, none]) (st1 := [.ref 27, .int x1]) rfl ?_
  refine gk_W_h (i := .getfield 141) 7 rfl rfl (h_gi (a := 26) (k := 1) hS ly_26 rfl) rfl ?_
  refine gk_W_b 1 ((w_i w 26 1) ≤ x1) (t := 96) (e := 10) (l1 := [some (.ref 27), some (.int x1), none, none]) (st1 := []) rfl (fun hp1 => ?_) (fun hp1 => ?_)
  · have h := h.1 hp1
    refine gk_W_s 1 (pc1 := 97) (l1 := [some (.ref 27), some (.int x1), none, none]) (st1 := [.ref 27]) rfl ?_
    refine gk_W_h (i := .getfield 141) 100 rfl rfl (h_gi (a := 26) (k := 1) hS ly_26 rfl) rfl ?_
    refine gk_W_b 2 (2 ≤ (w_i w 26 1)) (t := 111) (e := 104) (l1 := [some (.ref 27), some (.int x1), none, none]) (st1 := []) rfl (fun hp2 => ?_) (fun hp2 => ?_)
    · have h := h.1 hp2
      refine gk_W_s 1 (pc1 := 112) (l1 := [some (.ref 27), some (.int x1), none, none]) (st1 := [.int ((-1))]) rfl ?_
      obtain ⟨rfl, rfl⟩ := h
      exact gk_W_r (i := .ireturn) rfl rfl rfl
    · have h := h.2 hp2
      refine gk_W_s 1 (pc1 := 105) (l1 := [some (.ref 27), some (.int x1), none, none]) (st1 := [.ref 27]) rfl ?_
      refine gk_W_h (i := .getfield 141) 108 rfl rfl (h_gi (a := 26) (k := 1) hS ly_26 rfl) rfl ?_
      refine gk_W_s 1 (pc1 := 112) (l1 := [some (.ref 27), some (.int x1), none, none]) (st1 := [.int (w_i w 26 1)]) rfl ?_
      obtain ⟨rfl, rfl⟩ := h
      exact gk_W_r (i := .ireturn) rfl rfl rfl
  · have h := h.2 hp1
    refine gk_W_s 1 (pc1 := 11) (l1 := [some (.ref 27), some (.int x1), none, none]) (st1 := [.ref 27]) rfl ?_
    refine gk_W_h (i := .getfield 7) 14 rfl rfl (h_gr (a := 26) (k := 2) (m := 28) hS ly_26 rfl) rfl ?_
    refine gk_W_s 1 (pc1 := 15) (l1 := [some (.ref 27), some (.int x1), none, none]) (st1 := [.int x1, .ref 28]) rfl ?_
    obtain ⟨hb3, h⟩ := h
    refine gk_W_h (i := .caload) 16 rfl rfl (h_al (a := 27) (scr := none) hS ly_27 hb3) rfl ?_
    refine gk_W_s 1 (pc1 := 18) (l1 := [some (.ref 27), some (.int x1), none, none]) (st1 := [.int 72, .int ((w_a w 27).getD x1.toNatClampNeg 0)]) rfl ?_
    refine gk_W_c (i := .invokestatic 144) [.int (f_145 ((w_a w 27).getD x1.toNatClampNeg 0) 72)] 21 rfl rfl rfl (f_145_E ((w_a w 27).getD x1.toNatClampNeg 0) 72) rfl rfl ?_
    refine gk_W_b 3 (¬ x1 = 0) (t := 44) (e := 26) (l1 := [some (.ref 27), some (.int x1), some (.int (f_145 ((w_a w 27).getD x1.toNatClampNeg 0) 72)), none]) (st1 := []) rfl (fun hp4 => ?_) (fun hp4 => ?_)
    · have h := h.1 hp4
      refine gk_W_b 3 (¬ x1 = 1) (t := 68) (e := 49) (l1 := [some (.ref 27), some (.int x1), some (.int (f_145 ((w_a w 27).getD x1.toNatClampNeg 0) 72)), none]) (st1 := []) rfl (fun hp5 => ?_) (fun hp5 => ?_)
      · have h := h.1 hp5
        refine gk_W_b 3 (8 ≤ x1) (t := 82) (e := 74) (l1 := [some (.ref 27), some (.int x1), some (.int (f_145 ((w_a w 27).getD x1.toNatClampNeg 0) 72)), none]) (st1 := []) rfl (fun hp6 => ?_) (fun hp6 => ?_)
        · have h := h.1 hp6
          refine gk_W_s 5 (pc1 := 89) (l1 := [some (.ref 27), some (.int x1), some (.int (f_145 ((w_a w 27).getD x1.toNatClampNeg 0) 72)), some (.int 0)]) (st1 := [.int x1]) rfl ?_
          obtain ⟨rfl, rfl⟩ := h
          exact gk_W_r (i := .ireturn) rfl rfl rfl
        · have h := h.2 hp6
          refine gk_W_b 2 ((f_145 ((w_a w 27).getD x1.toNatClampNeg 0) 72) < 0) (t := 82) (e := 78) (l1 := [some (.ref 27), some (.int x1), some (.int (f_145 ((w_a w 27).getD x1.toNatClampNeg 0) 72)), none]) (st1 := []) rfl (fun hp7 => ?_) (fun hp7 => ?_)
          · have h := h.1 hp7
            refine gk_W_s 5 (pc1 := 89) (l1 := [some (.ref 27), some (.int x1), some (.int (f_145 ((w_a w 27).getD x1.toNatClampNeg 0) 72)), some (.int 0)]) (st1 := [.int x1]) rfl ?_
            obtain ⟨rfl, rfl⟩ := h
            exact gk_W_r (i := .ireturn) rfl rfl rfl
          · have h := h.2 hp7
            refine gk_W_s 7 (pc1 := 2) (l1 := [some (.ref 27), some (.int (x1 + 1)), some (.int (f_145 ((w_a w 27).getD x1.toNatClampNeg 0) 72)), some (.int 1)]) (st1 := []) rfl ?_
            exact gk_W_le (gk_le_s (gk_le_s (gk_le_n (gk_le_n (gk_le_0))))) h
      · have h := h.2 (Decidable.not_not.mp hp5)
        refine gk_W_s 1 (pc1 := 50) (l1 := [some (.ref 27), some (.int x1), some (.int (f_145 ((w_a w 27).getD x1.toNatClampNeg 0) 72)), none]) (st1 := [.ref 27]) rfl ?_
        refine gk_W_h (i := .getfield 7) 53 rfl rfl (h_gr (a := 26) (k := 2) (m := 28) hS ly_26 rfl) rfl ?_
        refine gk_W_s 1 (pc1 := 54) (l1 := [some (.ref 27), some (.int x1), some (.int (f_145 ((w_a w 27).getD x1.toNatClampNeg 0) 72)), none]) (st1 := [.int x1, .ref 28]) rfl ?_
        obtain ⟨hb8, h⟩ := h
        refine gk_W_h (i := .caload) 55 rfl rfl (h_al (a := 27) (scr := none) hS ly_27 hb8) rfl ?_
        refine gk_W_b 2 (¬ ((w_a w 27).getD x1.toNatClampNeg 0) = 58) (t := 64) (e := 60) (l1 := [some (.ref 27), some (.int x1), some (.int (f_145 ((w_a w 27).getD x1.toNatClampNeg 0) 72)), none]) (st1 := []) rfl (fun hp9 => ?_) (fun hp9 => ?_)
        · have h := h.1 hp9
          refine gk_W_s 6 (pc1 := 89) (l1 := [some (.ref 27), some (.int x1), some (.int (f_145 ((w_a w 27).getD x1.toNatClampNeg 0) 72)), some (.int 0)]) (st1 := [.int x1]) rfl ?_
          obtain ⟨rfl, rfl⟩ := h
          exact gk_W_r (i := .ireturn) rfl rfl rfl
        · have h := h.2 (Decidable.not_not.mp hp9)
          refine gk_W_s 7 (pc1 := 2) (l1 := [some (.ref 27), some (.int (x1 + 1)), some (.int (f_145 ((w_a w 27).getD x1.toNatClampNeg 0) 72)), some (.int 1)]) (st1 := []) rfl ?_
          exact gk_W_le (gk_le_s (gk_le_s (gk_le_n (gk_le_n (gk_le_0))))) h
    · have h := h.2 (Decidable.not_not.mp hp4)
      refine gk_W_b 2 ((f_145 ((w_a w 27).getD x1.toNatClampNeg 0) 72) < 0) (t := 40) (e := 30) (l1 := [some (.ref 27), some (.int x1), some (.int (f_145 ((w_a w 27).getD x1.toNatClampNeg 0) 72)), none]) (st1 := []) rfl (fun hp10 => ?_) (fun hp10 => ?_)
      · have h := h.1 hp10
        refine gk_W_s 6 (pc1 := 89) (l1 := [some (.ref 27), some (.int x1), some (.int (f_145 ((w_a w 27).getD x1.toNatClampNeg 0) 72)), some (.int 0)]) (st1 := [.int x1]) rfl ?_
        obtain ⟨rfl, rfl⟩ := h
        exact gk_W_r (i := .ireturn) rfl rfl rfl
      · have h := h.2 hp10
        refine gk_W_b 3 (16 ≤ (f_145 ((w_a w 27).getD x1.toNatClampNeg 0) 72)) (t := 40) (e := 36) (l1 := [some (.ref 27), some (.int x1), some (.int (f_145 ((w_a w 27).getD x1.toNatClampNeg 0) 72)), none]) (st1 := []) rfl (fun hp11 => ?_) (fun hp11 => ?_)
        · have h := h.1 hp11
          refine gk_W_s 6 (pc1 := 89) (l1 := [some (.ref 27), some (.int x1), some (.int (f_145 ((w_a w 27).getD x1.toNatClampNeg 0) 72)), some (.int 0)]) (st1 := [.int x1]) rfl ?_
          obtain ⟨rfl, rfl⟩ := h
          exact gk_W_r (i := .ireturn) rfl rfl rfl
        · have h := h.2 hp11
          refine gk_W_s 7 (pc1 := 2) (l1 := [some (.ref 27), some (.int (x1 + 1)), some (.int (f_145 ((w_a w 27).getD x1.toNatClampNeg 0) 72)), some (.int 1)]) (st1 := []) rfl ?_
          exact gk_W_le (gk_le_s (gk_le_s (gk_le_n (gk_le_n (gk_le_0))))) h
set_option maxRecDepth 8000 in
/-- GrammarDeskModel.fail(I)I, at 0 -/
theorem sg_146_0 {d : Nat} {rr : List gk_S} {w w' : gk_Wd} {r : gk_Res} (hS : gk_Sh rr w) (x1 : Int32)
    (h : (r = .inl (some (.int 0)) ∧ w' = w_si w 26 0 x1)) :
    gk_W none d 146 0 [some (.ref 27), some (.int x1)] [] w r w' := by
  refine gk_W_s 2 (pc1 := 2) (l1 := [some (.ref 27), some (.int x1)]) (st1 := [.int x1, .ref 27]) rfl ?_
  refine gk_W_h (i := .putfield 97) 5 rfl rfl (h_pi (a := 26) (k := 0) (x := x1) hS ly_26 rfl rfl) rfl ?_
  refine gk_W_s 1 (pc1 := 6) (l1 := [some (.ref 27), some (.int x1)]) (st1 := [.int 0]) rfl ?_
  obtain ⟨rfl, rfl⟩ := h
  exact gk_W_r (i := .ireturn) rfl rfl rfl
set_option maxRecDepth 8000 in
/-- GrammarDeskModel.save()V, at 0 -/
theorem sg_147_0 {d : Nat} {rr : List gk_S} {w w' : gk_Wd} {r : gk_Res} (hS : gk_Sh rr w)
    (h : (∃ (w2 : gk_Wd), gk_E d 148 [.ref 27] w (.inl none) w2 ∧ gk_Sh rr w2 ∧ (r = .inl none ∧ w' = w_si w2 26 14 0))) :
    gk_W none (d + 1) 147 0 [some (.ref 27)] [] w r w' := by
  refine gk_W_s 1 (pc1 := 1) (l1 := [some (.ref 27)]) (st1 := [.ref 27]) rfl ?_
  obtain ⟨w2, hE1, hS3, h⟩ := h
  refine gk_W_c (i := .invokevirtual 121) [] 4 rfl rfl (c_v (a := 26) hS ly_26 rfl rfl (Nat.le_of_ble_eq_true rfl)) hE1 rfl rfl ?_
  refine gk_W_s 2 (pc1 := 6) (l1 := [some (.ref 27)]) (st1 := [.int 0, .ref 27]) rfl ?_
  refine gk_W_h (i := .putfield 107) 9 rfl rfl (h_pi (a := 26) (k := 14) (x := 0) hS3 ly_26 rfl rfl) rfl ?_
  obtain ⟨rfl, rfl⟩ := h
  exact gk_W_r (i := .return_) rfl rfl rfl
set_option maxRecDepth 8000 in
/-- GrammarDeskModel.copyOld()V, at 0 -/
theorem sg_148_0 {d : Nat} {rr : List gk_S} {w w' : gk_Wd} {r : gk_Res} (hS : gk_Sh rr w)
    (h : gk_W none d 148 10 [some (.ref 27), some (.int 0), none] [] (w_si w 26 8 (w_i w 26 4)) r w') :
    gk_W none d 148 0 [some (.ref 27), none, none] [] w r w' := by
  refine gk_W_s 2 (pc1 := 2) (l1 := [some (.ref 27), none, none]) (st1 := [.ref 27, .ref 27]) rfl ?_
  refine gk_W_h (i := .getfield 111) 5 rfl rfl (h_gi (a := 26) (k := 4) hS ly_26 rfl) rfl ?_
  refine gk_W_h (i := .putfield 124) 8 rfl rfl (h_pi (a := 26) (k := 8) (x := w_i w 26 4) hS ly_26 rfl rfl) rfl ?_
  refine gk_W_s 2 (pc1 := 10) (l1 := [some (.ref 27), some (.int 0), none]) (st1 := []) rfl ?_
  exact h
set_option maxRecDepth 8000 in
/-- GrammarDeskModel.copyOld()V, at 10 -/
theorem sg_148_10 {d : Nat} {rr : List gk_S} {w w' : gk_Wd} {r : gk_Res} (hS : gk_Sh rr w) (x1 : Int32)
    (h : (((w_i w 26 4) ≤ x1 → (r = .inl none ∧ w' = w)) ∧ (¬ ((w_i w 26 4) ≤ x1) → (gk_out x1 64 = false ∧ (gk_out x1 64 = false ∧ (gk_out x1 64 = false ∧ (gk_out x1 64 = false ∧ gk_W none d 148 44 [some (.ref 27), some (.int x1), some (.int 0)] [] (w_sa (w_sa w 31 ((w_a w 31).set x1.toNatClampNeg ((w_a w 28).getD x1.toNatClampNeg 0))) 32 ((w_a (w_sa w 31 ((w_a w 31).set x1.toNatClampNeg ((w_a w 28).getD x1.toNatClampNeg 0))) 32).set x1.toNatClampNeg ((w_a (w_sa w 31 ((w_a w 31).set x1.toNatClampNeg ((w_a w 28).getD x1.toNatClampNeg 0))) 29).getD x1.toNatClampNeg 0))) r w'))))))) :
    gk_W none d 148 10 [some (.ref 27), some (.int x1), none] [] w r w' := by
  refine gk_W_s 2 (pc1 := 12) (l1 := [some (.ref 27), some (.int x1), none]) (st1 := [.ref 27, .int x1]) rfl ?_
  refine gk_W_h (i := .getfield 111) 15 rfl rfl (h_gi (a := 26) (k := 4) hS ly_26 rfl) rfl ?_
  refine gk_W_b 1 ((w_i w 26 4) ≤ x1) (t := 84) (e := 18) (l1 := [some (.ref 27), some (.int x1), none]) (st1 := []) rfl (fun hp1 => ?_) (fun hp1 => ?_)
  · have h := h.1 hp1
    obtain ⟨rfl, rfl⟩ := h
    exact gk_W_r (i := .return_) rfl rfl rfl
  · have h := h.2 hp1
    refine gk_W_s 1 (pc1 := 19) (l1 := [some (.ref 27), some (.int x1), none]) (st1 := [.ref 27]) rfl ?_
    refine gk_W_h (i := .getfield 27) 22 rfl rfl (h_gr (a := 26) (k := 9) (m := 32) hS ly_26 rfl) rfl ?_
    refine gk_W_s 2 (pc1 := 24) (l1 := [some (.ref 27), some (.int x1), none]) (st1 := [.ref 27, .int x1, .ref 32]) rfl ?_
    refine gk_W_h (i := .getfield 17) 27 rfl rfl (h_gr (a := 26) (k := 5) (m := 29) hS ly_26 rfl) rfl ?_
    refine gk_W_s 1 (pc1 := 28) (l1 := [some (.ref 27), some (.int x1), none]) (st1 := [.int x1, .ref 29, .int x1, .ref 32]) rfl ?_
    obtain ⟨hb2, h⟩ := h
    refine gk_W_h (i := .iaload) 29 rfl rfl (h_al (a := 28) (scr := none) hS ly_28 hb2) rfl ?_
    obtain ⟨hb3, h⟩ := h
    refine gk_W_h (i := .iastore) 30 rfl rfl (h_as (a := 31) (t := 0) hS ly_31 hb3 rfl) rfl ?_
    refine gk_W_s 1 (pc1 := 31) (l1 := [some (.ref 27), some (.int x1), none]) (st1 := [.ref 27]) rfl ?_
    refine gk_W_h (i := .getfield 30) 34 rfl rfl (h_gr (a := 26) (k := 10) (m := 33) (sh_as hS ly_31 (x1.toNatClampNeg) ((w_a w 28).getD x1.toNatClampNeg 0)) ly_26 rfl) rfl ?_
    refine gk_W_s 2 (pc1 := 36) (l1 := [some (.ref 27), some (.int x1), none]) (st1 := [.ref 27, .int x1, .ref 33]) rfl ?_
    refine gk_W_h (i := .getfield 21) 39 rfl rfl (h_gr (a := 26) (k := 6) (m := 30) (sh_as hS ly_31 (x1.toNatClampNeg) ((w_a w 28).getD x1.toNatClampNeg 0)) ly_26 rfl) rfl ?_
    refine gk_W_s 1 (pc1 := 40) (l1 := [some (.ref 27), some (.int x1), none]) (st1 := [.int x1, .ref 30, .int x1, .ref 33]) rfl ?_
    obtain ⟨hb4, h⟩ := h
    refine gk_W_h (i := .iaload) 41 rfl rfl (h_al (a := 29) (scr := none) (sh_as hS ly_31 (x1.toNatClampNeg) ((w_a w 28).getD x1.toNatClampNeg 0)) ly_29 hb4) rfl ?_
    obtain ⟨hb5, h⟩ := h
    refine gk_W_h (i := .iastore) 42 rfl rfl (h_as (a := 32) (t := 0) (sh_as hS ly_31 (x1.toNatClampNeg) ((w_a w 28).getD x1.toNatClampNeg 0)) ly_32 hb5 rfl) rfl ?_
    refine gk_W_s 2 (pc1 := 44) (l1 := [some (.ref 27), some (.int x1), some (.int 0)]) (st1 := []) rfl ?_
    exact h
set_option maxRecDepth 8000 in
/-- GrammarDeskModel.copyOld()V, at 44 -/
theorem sg_148_44 {d : Nat} {rr : List gk_S} {w w' : gk_Wd} {r : gk_Res} (hS : gk_Sh rr w) (x1 : Int32) (x2 : Int32)
    (h : ((10 ≤ x2 → gk_W none d 148 10 [some (.ref 27), some (.int (x1 + 1)), none] [] w r w') ∧ (¬ (10 ≤ x2) → (gk_out ((10 * x1) + x2) 640 = false ∧ (gk_out ((10 * x1) + x2) 640 = false ∧ gk_W none d 148 44 [some (.ref 27), some (.int x1), some (.int (x2 + 1))] [] (w_sa w 33 ((w_a w 33).set ((10 * x1) + x2).toNatClampNeg ((w_a w 30).getD ((10 * x1) + x2).toNatClampNeg 0))) r w'))))) :
    gk_W none d 148 44 [some (.ref 27), some (.int x1), some (.int x2)] [] w r w' := by
  refine gk_W_b 3 (10 ≤ x2) (t := 78) (e := 50) (l1 := [some (.ref 27), some (.int x1), some (.int x2)]) (st1 := []) rfl (fun hp1 => ?_) (fun hp1 => ?_)
  · have h := h.1 hp1
    refine gk_W_s 2 (pc1 := 10) (l1 := [some (.ref 27), some (.int (x1 + 1)), some (.int x2)]) (st1 := []) rfl ?_
    exact gk_W_le (gk_le_s (gk_le_s (gk_le_n (gk_le_0)))) h
  · have h := h.2 hp1
    refine gk_W_s 1 (pc1 := 51) (l1 := [some (.ref 27), some (.int x1), some (.int x2)]) (st1 := [.ref 27]) rfl ?_
    refine gk_W_h (i := .getfield 33) 54 rfl rfl (h_gr (a := 26) (k := 11) (m := 34) hS ly_26 rfl) rfl ?_
    refine gk_W_s 6 (pc1 := 61) (l1 := [some (.ref 27), some (.int x1), some (.int x2)]) (st1 := [.ref 27, .int ((10 * x1) + x2), .ref 34]) rfl ?_
    refine gk_W_h (i := .getfield 24) 64 rfl rfl (h_gr (a := 26) (k := 7) (m := 31) hS ly_26 rfl) rfl ?_
    refine gk_W_s 5 (pc1 := 70) (l1 := [some (.ref 27), some (.int x1), some (.int x2)]) (st1 := [.int ((10 * x1) + x2), .ref 31, .int ((10 * x1) + x2), .ref 34]) rfl ?_
    obtain ⟨hb2, h⟩ := h
    refine gk_W_h (i := .iaload) 71 rfl rfl (h_al (a := 30) (scr := none) hS ly_30 hb2) rfl ?_
    obtain ⟨hb3, h⟩ := h
    refine gk_W_h (i := .iastore) 72 rfl rfl (h_as (a := 33) (t := 0) hS ly_33 hb3 rfl) rfl ?_
    refine gk_W_s 2 (pc1 := 44) (l1 := [some (.ref 27), some (.int x1), some (.int (x2 + 1))]) (st1 := []) rfl ?_
    exact h
set_option maxRecDepth 8000 in
/-- GrammarDeskModel.add(I)I, at 0 -/
theorem sg_149_0 {d : Nat} {rr : List gk_S} {w w' : gk_Wd} {r : gk_Res} (hS : gk_Sh rr w) (x1 : Int32)
    (h : (((w_i w 26 12) ≤ 10 → (((w_i w 26 14) = 0 → gk_W none (d + 1) 149 25 [some (.ref 27), some (.int x1), some (.int 0), none] [] w r w') ∧ (¬ ((w_i w 26 14) = 0) → (r = .inl (some (.int ((-1)))) ∧ w' = w)))) ∧ (¬ ((w_i w 26 12) ≤ 10) → (((w_i (w_si w 26 14 1) 26 14) = 0 → gk_W none (d + 1) 149 25 [some (.ref 27), some (.int x1), some (.int 0), none] [] (w_si w 26 14 1) r w') ∧ (¬ ((w_i (w_si w 26 14 1) 26 14) = 0) → (r = .inl (some (.int ((-1)))) ∧ w' = w_si w 26 14 1)))))) :
    gk_W none (d + 1) 149 0 [some (.ref 27), some (.int x1), none, none] [] w r w' := by
  refine gk_W_s 1 (pc1 := 1) (l1 := [some (.ref 27), some (.int x1), none, none]) (st1 := [.ref 27]) rfl ?_
  refine gk_W_h (i := .getfield 100) 4 rfl rfl (h_gi (a := 26) (k := 12) hS ly_26 rfl) rfl ?_
  refine gk_W_b 2 ((w_i w 26 12) ≤ 10) (t := 14) (e := 9) (l1 := [some (.ref 27), some (.int x1), none, none]) (st1 := []) rfl (fun hp1 => ?_) (fun hp1 => ?_)
  · have h := h.1 hp1
    refine gk_W_s 1 (pc1 := 15) (l1 := [some (.ref 27), some (.int x1), none, none]) (st1 := [.ref 27]) rfl ?_
    refine gk_W_h (i := .getfield 107) 18 rfl rfl (h_gi (a := 26) (k := 14) hS ly_26 rfl) rfl ?_
    refine gk_W_b 1 ((w_i w 26 14) = 0) (t := 23) (e := 21) (l1 := [some (.ref 27), some (.int x1), none, none]) (st1 := []) rfl (fun hp2 => ?_) (fun hp2 => ?_)
    · have h := h.1 hp2
      refine gk_W_s 2 (pc1 := 25) (l1 := [some (.ref 27), some (.int x1), some (.int 0), none]) (st1 := []) rfl ?_
      exact h
    · have h := h.2 hp2
      refine gk_W_s 1 (pc1 := 22) (l1 := [some (.ref 27), some (.int x1), none, none]) (st1 := [.int ((-1))]) rfl ?_
      obtain ⟨rfl, rfl⟩ := h
      exact gk_W_r (i := .ireturn) rfl rfl rfl
  · have h := h.2 hp1
    refine gk_W_s 2 (pc1 := 11) (l1 := [some (.ref 27), some (.int x1), none, none]) (st1 := [.int 1, .ref 27]) rfl ?_
    refine gk_W_h (i := .putfield 107) 14 rfl rfl (h_pi (a := 26) (k := 14) (x := 1) hS ly_26 rfl rfl) rfl ?_
    refine gk_W_s 1 (pc1 := 15) (l1 := [some (.ref 27), some (.int x1), none, none]) (st1 := [.ref 27]) rfl ?_
    refine gk_W_h (i := .getfield 107) 18 rfl rfl (h_gi (a := 26) (k := 14) (sh_si hS ly_26 (k := 14) rfl 1) ly_26 rfl) rfl ?_
    refine gk_W_b 1 ((w_i (w_si w 26 14 1) 26 14) = 0) (t := 23) (e := 21) (l1 := [some (.ref 27), some (.int x1), none, none]) (st1 := []) rfl (fun hp3 => ?_) (fun hp3 => ?_)
    · have h := h.1 hp3
      refine gk_W_s 2 (pc1 := 25) (l1 := [some (.ref 27), some (.int x1), some (.int 0), none]) (st1 := []) rfl ?_
      exact h
    · have h := h.2 hp3
      refine gk_W_s 1 (pc1 := 22) (l1 := [some (.ref 27), some (.int x1), none, none]) (st1 := [.int ((-1))]) rfl ?_
      obtain ⟨rfl, rfl⟩ := h
      exact gk_W_r (i := .ireturn) rfl rfl rfl
set_option maxRecDepth 8000 in
/-- GrammarDeskModel.add(I)I, at 25 -/
theorem sg_149_25 {d : Nat} {rr : List gk_S} {w w' : gk_Wd} {r : gk_Res} (hS : gk_Sh rr w) (x1 : Int32) (x2 : Int32)
    (h : (((w_i w 26 4) ≤ x2 → (((w_i w 26 4) ≤ x2 → ((¬ (w_i w 26 4) = 60 → gk_W none (d + 1) 149 88 [some (.ref 27), some (.int x1), some (.int x2), some (.int (w_i w 26 4))] [] w r w') ∧ ((w_i w 26 4) = 60 → (r = .inl (some (.int ((-1)))) ∧ w' = w_si w 26 14 1)))) ∧ (¬ ((w_i w 26 4) ≤ x2) → (∃ (v5 : Int32), gk_E d 150 [.ref 27, .int x2, .int x1] w (.inl (some (.int v5))) w ∧ ((¬ v5 = 0 → ((¬ (w_i w 26 4) = 60 → gk_W none (d + 1) 149 88 [some (.ref 27), some (.int x1), some (.int x2), some (.int (w_i w 26 4))] [] w r w') ∧ ((w_i w 26 4) = 60 → (r = .inl (some (.int ((-1)))) ∧ w' = w_si w 26 14 1)))) ∧ (v5 = 0 → (r = .inl (some (.int x2)) ∧ w' = w))))))) ∧ (¬ ((w_i w 26 4) ≤ x2) → (∃ (v9 : Int32), gk_E d 150 [.ref 27, .int x2, .int x1] w (.inl (some (.int v9))) w ∧ ((0 ≤ v9 → (((w_i w 26 4) ≤ x2 → ((¬ (w_i w 26 4) = 60 → gk_W none (d + 1) 149 88 [some (.ref 27), some (.int x1), some (.int x2), some (.int (w_i w 26 4))] [] w r w') ∧ ((w_i w 26 4) = 60 → (r = .inl (some (.int ((-1)))) ∧ w' = w_si w 26 14 1)))) ∧ (¬ ((w_i w 26 4) ≤ x2) → (∃ (v14 : Int32), gk_E d 150 [.ref 27, .int x2, .int x1] w (.inl (some (.int v14))) w ∧ ((¬ v14 = 0 → ((¬ (w_i w 26 4) = 60 → gk_W none (d + 1) 149 88 [some (.ref 27), some (.int x1), some (.int x2), some (.int (w_i w 26 4))] [] w r w') ∧ ((w_i w 26 4) = 60 → (r = .inl (some (.int ((-1)))) ∧ w' = w_si w 26 14 1)))) ∧ (v14 = 0 → (r = .inl (some (.int x2)) ∧ w' = w))))))) ∧ (¬ (0 ≤ v9) → gk_W none (d + 1) 149 25 [some (.ref 27), some (.int x1), some (.int (x2 + 1)), none] [] w r w')))))) :
    gk_W none (d + 1) 149 25 [some (.ref 27), some (.int x1), some (.int x2), none] [] w r w' := by
  refine gk_W_s 2 (pc1 := 27) (l1 := [some (.ref 27), some (.int x1), some (.int x2), none]) (st1 := [.ref 27, .int x2]) rfl ?_
  refine gk_W_h (i := .getfield 111) 30 rfl rfl (h_gi (a := 26) (k := 4) hS ly_26 rfl) rfl ?_
  refine gk_W_b 1 ((w_i w 26 4) ≤ x2) (t := 48) (e := 33) (l1 := [some (.ref 27), some (.int x1), some (.int x2), none]) (st1 := []) rfl (fun hp1 => ?_) (fun hp1 => ?_)
  · have h := h.1 hp1
    refine gk_W_s 2 (pc1 := 50) (l1 := [some (.ref 27), some (.int x1), some (.int x2), none]) (st1 := [.ref 27, .int x2]) rfl ?_
    refine gk_W_h (i := .getfield 111) 53 rfl rfl (h_gi (a := 26) (k := 4) hS ly_26 rfl) rfl ?_
    refine gk_W_b 1 ((w_i w 26 4) ≤ x2) (t := 67) (e := 56) (l1 := [some (.ref 27), some (.int x1), some (.int x2), none]) (st1 := []) rfl (fun hp2 => ?_) (fun hp2 => ?_)
    · have h := h.1 hp2
      refine gk_W_s 1 (pc1 := 68) (l1 := [some (.ref 27), some (.int x1), some (.int x2), none]) (st1 := [.ref 27]) rfl ?_
      refine gk_W_h (i := .getfield 111) 71 rfl rfl (h_gi (a := 26) (k := 4) hS ly_26 rfl) rfl ?_
      refine gk_W_b 2 (¬ (w_i w 26 4) = 60) (t := 83) (e := 76) (l1 := [some (.ref 27), some (.int x1), some (.int x2), none]) (st1 := []) rfl (fun hp3 => ?_) (fun hp3 => ?_)
      · have h := h.1 hp3
        refine gk_W_s 1 (pc1 := 84) (l1 := [some (.ref 27), some (.int x1), some (.int x2), none]) (st1 := [.ref 27]) rfl ?_
        refine gk_W_h (i := .getfield 111) 87 rfl rfl (h_gi (a := 26) (k := 4) hS ly_26 rfl) rfl ?_
        refine gk_W_s 1 (pc1 := 88) (l1 := [some (.ref 27), some (.int x1), some (.int x2), some (.int (w_i w 26 4))]) (st1 := []) rfl ?_
        exact h
      · have h := h.2 (Decidable.not_not.mp hp3)
        refine gk_W_s 2 (pc1 := 78) (l1 := [some (.ref 27), some (.int x1), some (.int x2), none]) (st1 := [.int 1, .ref 27]) rfl ?_
        refine gk_W_h (i := .putfield 107) 81 rfl rfl (h_pi (a := 26) (k := 14) (x := 1) hS ly_26 rfl rfl) rfl ?_
        refine gk_W_s 1 (pc1 := 82) (l1 := [some (.ref 27), some (.int x1), some (.int x2), none]) (st1 := [.int ((-1))]) rfl ?_
        obtain ⟨rfl, rfl⟩ := h
        exact gk_W_r (i := .ireturn) rfl rfl rfl
    · have h := h.2 hp2
      refine gk_W_s 3 (pc1 := 59) (l1 := [some (.ref 27), some (.int x1), some (.int x2), none]) (st1 := [.int x1, .int x2, .ref 27]) rfl ?_
      obtain ⟨v5, hE4, h⟩ := h
      refine gk_W_c (i := .invokevirtual 114) [.int v5] 62 rfl rfl (c_v (a := 26) hS ly_26 rfl rfl (Nat.le_of_ble_eq_true rfl)) hE4 rfl rfl ?_
      refine gk_W_b 1 (¬ v5 = 0) (t := 67) (e := 65) (l1 := [some (.ref 27), some (.int x1), some (.int x2), none]) (st1 := []) rfl (fun hp6 => ?_) (fun hp6 => ?_)
      · have h := h.1 hp6
        refine gk_W_s 1 (pc1 := 68) (l1 := [some (.ref 27), some (.int x1), some (.int x2), none]) (st1 := [.ref 27]) rfl ?_
        refine gk_W_h (i := .getfield 111) 71 rfl rfl (h_gi (a := 26) (k := 4) hS ly_26 rfl) rfl ?_
        refine gk_W_b 2 (¬ (w_i w 26 4) = 60) (t := 83) (e := 76) (l1 := [some (.ref 27), some (.int x1), some (.int x2), none]) (st1 := []) rfl (fun hp7 => ?_) (fun hp7 => ?_)
        · have h := h.1 hp7
          refine gk_W_s 1 (pc1 := 84) (l1 := [some (.ref 27), some (.int x1), some (.int x2), none]) (st1 := [.ref 27]) rfl ?_
          refine gk_W_h (i := .getfield 111) 87 rfl rfl (h_gi (a := 26) (k := 4) hS ly_26 rfl) rfl ?_
          refine gk_W_s 1 (pc1 := 88) (l1 := [some (.ref 27), some (.int x1), some (.int x2), some (.int (w_i w 26 4))]) (st1 := []) rfl ?_
          exact h
        · have h := h.2 (Decidable.not_not.mp hp7)
          refine gk_W_s 2 (pc1 := 78) (l1 := [some (.ref 27), some (.int x1), some (.int x2), none]) (st1 := [.int 1, .ref 27]) rfl ?_
          refine gk_W_h (i := .putfield 107) 81 rfl rfl (h_pi (a := 26) (k := 14) (x := 1) hS ly_26 rfl rfl) rfl ?_
          refine gk_W_s 1 (pc1 := 82) (l1 := [some (.ref 27), some (.int x1), some (.int x2), none]) (st1 := [.int ((-1))]) rfl ?_
          obtain ⟨rfl, rfl⟩ := h
          exact gk_W_r (i := .ireturn) rfl rfl rfl
      · have h := h.2 (Decidable.not_not.mp hp6)
        refine gk_W_s 1 (pc1 := 66) (l1 := [some (.ref 27), some (.int x1), some (.int x2), none]) (st1 := [.int x2]) rfl ?_
        obtain ⟨rfl, rfl⟩ := h
        exact gk_W_r (i := .ireturn) rfl rfl rfl
  · have h := h.2 hp1
    refine gk_W_s 3 (pc1 := 36) (l1 := [some (.ref 27), some (.int x1), some (.int x2), none]) (st1 := [.int x1, .int x2, .ref 27]) rfl ?_
    obtain ⟨v9, hE8, h⟩ := h
    refine gk_W_c (i := .invokevirtual 114) [.int v9] 39 rfl rfl (c_v (a := 26) hS ly_26 rfl rfl (Nat.le_of_ble_eq_true rfl)) hE8 rfl rfl ?_
    refine gk_W_b 1 (0 ≤ v9) (t := 48) (e := 42) (l1 := [some (.ref 27), some (.int x1), some (.int x2), none]) (st1 := []) rfl (fun hp10 => ?_) (fun hp10 => ?_)
    · have h := h.1 hp10
      refine gk_W_s 2 (pc1 := 50) (l1 := [some (.ref 27), some (.int x1), some (.int x2), none]) (st1 := [.ref 27, .int x2]) rfl ?_
      refine gk_W_h (i := .getfield 111) 53 rfl rfl (h_gi (a := 26) (k := 4) hS ly_26 rfl) rfl ?_
      refine gk_W_b 1 ((w_i w 26 4) ≤ x2) (t := 67) (e := 56) (l1 := [some (.ref 27), some (.int x1), some (.int x2), none]) (st1 := []) rfl (fun hp11 => ?_) (fun hp11 => ?_)
      · have h := h.1 hp11
        refine gk_W_s 1 (pc1 := 68) (l1 := [some (.ref 27), some (.int x1), some (.int x2), none]) (st1 := [.ref 27]) rfl ?_
        refine gk_W_h (i := .getfield 111) 71 rfl rfl (h_gi (a := 26) (k := 4) hS ly_26 rfl) rfl ?_
        refine gk_W_b 2 (¬ (w_i w 26 4) = 60) (t := 83) (e := 76) (l1 := [some (.ref 27), some (.int x1), some (.int x2), none]) (st1 := []) rfl (fun hp12 => ?_) (fun hp12 => ?_)
        · have h := h.1 hp12
          refine gk_W_s 1 (pc1 := 84) (l1 := [some (.ref 27), some (.int x1), some (.int x2), none]) (st1 := [.ref 27]) rfl ?_
          refine gk_W_h (i := .getfield 111) 87 rfl rfl (h_gi (a := 26) (k := 4) hS ly_26 rfl) rfl ?_
          refine gk_W_s 1 (pc1 := 88) (l1 := [some (.ref 27), some (.int x1), some (.int x2), some (.int (w_i w 26 4))]) (st1 := []) rfl ?_
          exact h
        · have h := h.2 (Decidable.not_not.mp hp12)
          refine gk_W_s 2 (pc1 := 78) (l1 := [some (.ref 27), some (.int x1), some (.int x2), none]) (st1 := [.int 1, .ref 27]) rfl ?_
          refine gk_W_h (i := .putfield 107) 81 rfl rfl (h_pi (a := 26) (k := 14) (x := 1) hS ly_26 rfl rfl) rfl ?_
          refine gk_W_s 1 (pc1 := 82) (l1 := [some (.ref 27), some (.int x1), some (.int x2), none]) (st1 := [.int ((-1))]) rfl ?_
          obtain ⟨rfl, rfl⟩ := h
          exact gk_W_r (i := .ireturn) rfl rfl rfl
      · have h := h.2 hp11
        refine gk_W_s 3 (pc1 := 59) (l1 := [some (.ref 27), some (.int x1), some (.int x2), none]) (st1 := [.int x1, .int x2, .ref 27]) rfl ?_
        obtain ⟨v14, hE13, h⟩ := h
        refine gk_W_c (i := .invokevirtual 114) [.int v14] 62 rfl rfl (c_v (a := 26) hS ly_26 rfl rfl (Nat.le_of_ble_eq_true rfl)) hE13 rfl rfl ?_
        refine gk_W_b 1 (¬ v14 = 0) (t := 67) (e := 65) (l1 := [some (.ref 27), some (.int x1), some (.int x2), none]) (st1 := []) rfl (fun hp15 => ?_) (fun hp15 => ?_)
        · have h := h.1 hp15
          refine gk_W_s 1 (pc1 := 68) (l1 := [some (.ref 27), some (.int x1), some (.int x2), none]) (st1 := [.ref 27]) rfl ?_
          refine gk_W_h (i := .getfield 111) 71 rfl rfl (h_gi (a := 26) (k := 4) hS ly_26 rfl) rfl ?_
          refine gk_W_b 2 (¬ (w_i w 26 4) = 60) (t := 83) (e := 76) (l1 := [some (.ref 27), some (.int x1), some (.int x2), none]) (st1 := []) rfl (fun hp16 => ?_) (fun hp16 => ?_)
          · have h := h.1 hp16
            refine gk_W_s 1 (pc1 := 84) (l1 := [some (.ref 27), some (.int x1), some (.int x2), none]) (st1 := [.ref 27]) rfl ?_
            refine gk_W_h (i := .getfield 111) 87 rfl rfl (h_gi (a := 26) (k := 4) hS ly_26 rfl) rfl ?_
            refine gk_W_s 1 (pc1 := 88) (l1 := [some (.ref 27), some (.int x1), some (.int x2), some (.int (w_i w 26 4))]) (st1 := []) rfl ?_
            exact h
          · have h := h.2 (Decidable.not_not.mp hp16)
            refine gk_W_s 2 (pc1 := 78) (l1 := [some (.ref 27), some (.int x1), some (.int x2), none]) (st1 := [.int 1, .ref 27]) rfl ?_
            refine gk_W_h (i := .putfield 107) 81 rfl rfl (h_pi (a := 26) (k := 14) (x := 1) hS ly_26 rfl rfl) rfl ?_
            refine gk_W_s 1 (pc1 := 82) (l1 := [some (.ref 27), some (.int x1), some (.int x2), none]) (st1 := [.int ((-1))]) rfl ?_
            obtain ⟨rfl, rfl⟩ := h
            exact gk_W_r (i := .ireturn) rfl rfl rfl
        · have h := h.2 (Decidable.not_not.mp hp15)
          refine gk_W_s 1 (pc1 := 66) (l1 := [some (.ref 27), some (.int x1), some (.int x2), none]) (st1 := [.int x2]) rfl ?_
          obtain ⟨rfl, rfl⟩ := h
          exact gk_W_r (i := .ireturn) rfl rfl rfl
    · have h := h.2 hp10
      refine gk_W_s 2 (pc1 := 25) (l1 := [some (.ref 27), some (.int x1), some (.int (x2 + 1)), none]) (st1 := []) rfl ?_
      exact h
set_option maxRecDepth 8000 in
/-- GrammarDeskModel.add(I)I, at 88 -/
theorem sg_149_88 {d : Nat} {rr : List gk_S} {w w' : gk_Wd} {r : gk_Res} (hS : gk_Sh rr w) (x1 : Int32) (x2 : Int32) (x3 : Int32)
    (h : ((x3 ≤ x2 → (gk_out x2 64 = false ∧ (gk_out x2 64 = false ∧ gk_W none (d + 1) 149 126 [some (.ref 27), none, some (.int x2), some (.int 0)] [] (w_sa (w_sa w 28 ((w_a w 28).set x2.toNatClampNeg x1)) 29 ((w_a (w_sa w 28 ((w_a w 28).set x2.toNatClampNeg x1)) 29).set x2.toNatClampNeg (w_i (w_sa w 28 ((w_a w 28).set x2.toNatClampNeg x1)) 26 12))) r w'))) ∧ (¬ (x3 ≤ x2) → (∃ (w5 : gk_Wd), gk_E d 152 [.ref 27, .int x3, .int (x3 - 1)] w (.inl none) w5 ∧ gk_Sh rr w5 ∧ gk_W none (d + 1) 149 88 [some (.ref 27), some (.int x1), some (.int x2), some (.int (x3 + (-1)))] [] w5 r w')))) :
    gk_W none (d + 1) 149 88 [some (.ref 27), some (.int x1), some (.int x2), some (.int x3)] [] w r w' := by
  refine gk_W_b 3 (x3 ≤ x2) (t := 107) (e := 93) (l1 := [some (.ref 27), some (.int x1), some (.int x2), some (.int x3)]) (st1 := []) rfl (fun hp1 => ?_) (fun hp1 => ?_)
  · have h := h.1 hp1
    refine gk_W_s 1 (pc1 := 108) (l1 := [some (.ref 27), some (.int x1), some (.int x2), some (.int x3)]) (st1 := [.ref 27]) rfl ?_
    refine gk_W_h (i := .getfield 17) 111 rfl rfl (h_gr (a := 26) (k := 5) (m := 29) hS ly_26 rfl) rfl ?_
    refine gk_W_s 2 (pc1 := 113) (l1 := [some (.ref 27), some (.int x1), some (.int x2), some (.int x3)]) (st1 := [.int x1, .int x2, .ref 29]) rfl ?_
    obtain ⟨hb2, h⟩ := h
    refine gk_W_h (i := .iastore) 114 rfl rfl (h_as (a := 28) (t := 0) hS ly_28 hb2 rfl) rfl ?_
    refine gk_W_s 1 (pc1 := 115) (l1 := [some (.ref 27), some (.int x1), some (.int x2), some (.int x3)]) (st1 := [.ref 27]) rfl ?_
    refine gk_W_h (i := .getfield 21) 118 rfl rfl (h_gr (a := 26) (k := 6) (m := 30) (sh_as hS ly_28 (x2.toNatClampNeg) x1) ly_26 rfl) rfl ?_
    refine gk_W_s 2 (pc1 := 120) (l1 := [some (.ref 27), some (.int x1), some (.int x2), some (.int x3)]) (st1 := [.ref 27, .int x2, .ref 30]) rfl ?_
    refine gk_W_h (i := .getfield 100) 123 rfl rfl (h_gi (a := 26) (k := 12) (sh_as hS ly_28 (x2.toNatClampNeg) x1) ly_26 rfl) rfl ?_
    obtain ⟨hb3, h⟩ := h
    refine gk_W_h (i := .iastore) 124 rfl rfl (h_as (a := 29) (t := 0) (sh_as hS ly_28 (x2.toNatClampNeg) x1) ly_29 hb3 rfl) rfl ?_
    refine gk_W_s 2 (pc1 := 126) (l1 := [some (.ref 27), some (.int x1), some (.int x2), some (.int 0)]) (st1 := []) rfl ?_
    exact gk_W_le (gk_le_s (gk_le_n (gk_le_s (gk_le_s (gk_le_0))))) h
  · have h := h.2 hp1
    refine gk_W_s 5 (pc1 := 98) (l1 := [some (.ref 27), some (.int x1), some (.int x2), some (.int x3)]) (st1 := [.int (x3 - 1), .int x3, .ref 27]) rfl ?_
    obtain ⟨w5, hE4, hS6, h⟩ := h
    refine gk_W_c (i := .invokevirtual 117) [] 101 rfl rfl (c_v (a := 26) hS ly_26 rfl rfl (Nat.le_of_ble_eq_true rfl)) hE4 rfl rfl ?_
    refine gk_W_s 2 (pc1 := 88) (l1 := [some (.ref 27), some (.int x1), some (.int x2), some (.int (x3 + (-1)))]) (st1 := []) rfl ?_
    exact h
set_option maxRecDepth 8000 in
/-- GrammarDeskModel.add(I)I, at 126 -/
theorem sg_149_126 {d : Nat} {rr : List gk_S} {w w' : gk_Wd} {r : gk_Res} (hS : gk_Sh rr w) (x2 : Int32) (x3 : Int32)
    (h : (((w_i w 26 12) ≤ x3 → (r = .inl (some (.int x2)) ∧ w' = w_si w 26 4 ((w_i w 26 4) + 1))) ∧ (¬ ((w_i w 26 12) ≤ x3) → (gk_out x3 24 = false ∧ (gk_out ((10 * x2) + x3) 640 = false ∧ gk_W none (d + 1) 149 126 [some (.ref 27), none, some (.int x2), some (.int (x3 + 1))] [] (w_sa w 30 ((w_a w 30).set ((10 * x2) + x3).toNatClampNeg ((w_a w 34).getD x3.toNatClampNeg 0))) r w'))))) :
    gk_W none (d + 1) 149 126 [some (.ref 27), none, some (.int x2), some (.int x3)] [] w r w' := by
  refine gk_W_s 2 (pc1 := 128) (l1 := [some (.ref 27), none, some (.int x2), some (.int x3)]) (st1 := [.ref 27, .int x3]) rfl ?_
  refine gk_W_h (i := .getfield 100) 131 rfl rfl (h_gi (a := 26) (k := 12) hS ly_26 rfl) rfl ?_
  refine gk_W_b 1 ((w_i w 26 12) ≤ x3) (t := 157) (e := 134) (l1 := [some (.ref 27), none, some (.int x2), some (.int x3)]) (st1 := []) rfl (fun hp1 => ?_) (fun hp1 => ?_)
  · have h := h.1 hp1
    refine gk_W_s 2 (pc1 := 159) (l1 := [some (.ref 27), none, some (.int x2), some (.int x3)]) (st1 := [.ref 27, .ref 27]) rfl ?_
    refine gk_W_h (i := .getfield 111) 162 rfl rfl (h_gi (a := 26) (k := 4) hS ly_26 rfl) rfl ?_
    refine gk_W_s 2 (pc1 := 164) (l1 := [some (.ref 27), none, some (.int x2), some (.int x3)]) (st1 := [.int ((w_i w 26 4) + 1), .ref 27]) rfl ?_
    refine gk_W_h (i := .putfield 111) 167 rfl rfl (h_pi (a := 26) (k := 4) (x := (w_i w 26 4) + 1) hS ly_26 rfl rfl) rfl ?_
    refine gk_W_s 1 (pc1 := 168) (l1 := [some (.ref 27), none, some (.int x2), some (.int x3)]) (st1 := [.int x2]) rfl ?_
    obtain ⟨rfl, rfl⟩ := h
    exact gk_W_r (i := .ireturn) rfl rfl rfl
  · have h := h.2 hp1
    refine gk_W_s 1 (pc1 := 135) (l1 := [some (.ref 27), none, some (.int x2), some (.int x3)]) (st1 := [.ref 27]) rfl ?_
    refine gk_W_h (i := .getfield 24) 138 rfl rfl (h_gr (a := 26) (k := 7) (m := 31) hS ly_26 rfl) rfl ?_
    refine gk_W_s 6 (pc1 := 145) (l1 := [some (.ref 27), none, some (.int x2), some (.int x3)]) (st1 := [.ref 27, .int ((10 * x2) + x3), .ref 31]) rfl ?_
    refine gk_W_h (i := .getfield 36) 148 rfl rfl (h_gr (a := 26) (k := 13) (m := 35) hS ly_26 rfl) rfl ?_
    refine gk_W_s 1 (pc1 := 149) (l1 := [some (.ref 27), none, some (.int x2), some (.int x3)]) (st1 := [.int x3, .ref 35, .int ((10 * x2) + x3), .ref 31]) rfl ?_
    obtain ⟨hb2, h⟩ := h
    refine gk_W_h (i := .iaload) 150 rfl rfl (h_al (a := 34) (scr := none) hS ly_34 hb2) rfl ?_
    obtain ⟨hb3, h⟩ := h
    refine gk_W_h (i := .iastore) 151 rfl rfl (h_as (a := 30) (t := 0) hS ly_30 hb3 rfl) rfl ?_
    refine gk_W_s 2 (pc1 := 126) (l1 := [some (.ref 27), none, some (.int x2), some (.int (x3 + 1))]) (st1 := []) rfl ?_
    exact h
set_option maxRecDepth 8000 in
/-- GrammarDeskModel.compare(II)I, at 0 -/
theorem sg_150_0 {d : Nat} {rr : List gk_S} {w w' : gk_Wd} {r : gk_Res} (hS : gk_Sh rr w) (x1 : Int32) (x2 : Int32)
    (h : (gk_out x1 64 = false ∧ ((((w_a w 28).getD x1.toNatClampNeg 0) = x2 → (gk_out x1 64 = false ∧ ((((w_a w 29).getD x1.toNatClampNeg 0) = (w_i w 26 12) → gk_W none (d + 1) 150 60 [some (.ref 27), some (.int x1), none, some (.int 0)] [] w r w') ∧ (¬ (((w_a w 29).getD x1.toNatClampNeg 0) = (w_i w 26 12)) → (gk_out x1 64 = false ∧ (((w_i w 26 12) ≤ ((w_a w 29).getD x1.toNatClampNeg 0) → (r = .inl (some (.int 1)) ∧ w' = w)) ∧ (¬ ((w_i w 26 12) ≤ ((w_a w 29).getD x1.toNatClampNeg 0)) → (r = .inl (some (.int ((-1)))) ∧ w' = w)))))))) ∧ (¬ (((w_a w 28).getD x1.toNatClampNeg 0) = x2) → (gk_out x1 64 = false ∧ ((x2 ≤ ((w_a w 28).getD x1.toNatClampNeg 0) → (r = .inl (some (.int 1)) ∧ w' = w)) ∧ (¬ (x2 ≤ ((w_a w 28).getD x1.toNatClampNeg 0)) → (r = .inl (some (.int ((-1)))) ∧ w' = w)))))))) :
    gk_W none (d + 1) 150 0 [some (.ref 27), some (.int x1), some (.int x2), none] [] w r w' := by
  refine gk_W_s 1 (pc1 := 1) (l1 := [some (.ref 27), some (.int x1), some (.int x2), none]) (st1 := [.ref 27]) rfl ?_
  refine gk_W_h (i := .getfield 17) 4 rfl rfl (h_gr (a := 26) (k := 5) (m := 29) hS ly_26 rfl) rfl ?_
  refine gk_W_s 1 (pc1 := 5) (l1 := [some (.ref 27), some (.int x1), some (.int x2), none]) (st1 := [.int x1, .ref 29]) rfl ?_
  obtain ⟨hb1, h⟩ := h
  refine gk_W_h (i := .iaload) 6 rfl rfl (h_al (a := 28) (scr := none) hS ly_28 hb1) rfl ?_
  refine gk_W_b 2 (((w_a w 28).getD x1.toNatClampNeg 0) = x2) (t := 26) (e := 10) (l1 := [some (.ref 27), some (.int x1), some (.int x2), none]) (st1 := []) rfl (fun hp2 => ?_) (fun hp2 => ?_)
  · have h := h.1 hp2
    refine gk_W_s 1 (pc1 := 27) (l1 := [some (.ref 27), some (.int x1), some (.int x2), none]) (st1 := [.ref 27]) rfl ?_
    refine gk_W_h (i := .getfield 21) 30 rfl rfl (h_gr (a := 26) (k := 6) (m := 30) hS ly_26 rfl) rfl ?_
    refine gk_W_s 1 (pc1 := 31) (l1 := [some (.ref 27), some (.int x1), some (.int x2), none]) (st1 := [.int x1, .ref 30]) rfl ?_
    obtain ⟨hb3, h⟩ := h
    refine gk_W_h (i := .iaload) 32 rfl rfl (h_al (a := 29) (scr := none) hS ly_29 hb3) rfl ?_
    refine gk_W_s 1 (pc1 := 33) (l1 := [some (.ref 27), some (.int x1), some (.int x2), none]) (st1 := [.ref 27, .int ((w_a w 29).getD x1.toNatClampNeg 0)]) rfl ?_
    refine gk_W_h (i := .getfield 100) 36 rfl rfl (h_gi (a := 26) (k := 12) hS ly_26 rfl) rfl ?_
    refine gk_W_b 1 (((w_a w 29).getD x1.toNatClampNeg 0) = (w_i w 26 12)) (t := 58) (e := 39) (l1 := [some (.ref 27), some (.int x1), some (.int x2), none]) (st1 := []) rfl (fun hp4 => ?_) (fun hp4 => ?_)
    · have h := h.1 hp4
      refine gk_W_s 2 (pc1 := 60) (l1 := [some (.ref 27), some (.int x1), some (.int x2), some (.int 0)]) (st1 := []) rfl ?_
      exact gk_W_le (gk_le_s (gk_le_s (gk_le_n (gk_le_s (gk_le_0))))) h
    · have h := h.2 hp4
      refine gk_W_s 1 (pc1 := 40) (l1 := [some (.ref 27), some (.int x1), some (.int x2), none]) (st1 := [.ref 27]) rfl ?_
      refine gk_W_h (i := .getfield 21) 43 rfl rfl (h_gr (a := 26) (k := 6) (m := 30) hS ly_26 rfl) rfl ?_
      refine gk_W_s 1 (pc1 := 44) (l1 := [some (.ref 27), some (.int x1), some (.int x2), none]) (st1 := [.int x1, .ref 30]) rfl ?_
      obtain ⟨hb5, h⟩ := h
      refine gk_W_h (i := .iaload) 45 rfl rfl (h_al (a := 29) (scr := none) hS ly_29 hb5) rfl ?_
      refine gk_W_s 1 (pc1 := 46) (l1 := [some (.ref 27), some (.int x1), some (.int x2), none]) (st1 := [.ref 27, .int ((w_a w 29).getD x1.toNatClampNeg 0)]) rfl ?_
      refine gk_W_h (i := .getfield 100) 49 rfl rfl (h_gi (a := 26) (k := 12) hS ly_26 rfl) rfl ?_
      refine gk_W_b 1 ((w_i w 26 12) ≤ ((w_a w 29).getD x1.toNatClampNeg 0)) (t := 56) (e := 52) (l1 := [some (.ref 27), some (.int x1), some (.int x2), none]) (st1 := []) rfl (fun hp6 => ?_) (fun hp6 => ?_)
      · have h := h.1 hp6
        refine gk_W_s 1 (pc1 := 57) (l1 := [some (.ref 27), some (.int x1), some (.int x2), none]) (st1 := [.int 1]) rfl ?_
        obtain ⟨rfl, rfl⟩ := h
        exact gk_W_r (i := .ireturn) rfl rfl rfl
      · have h := h.2 hp6
        refine gk_W_s 2 (pc1 := 57) (l1 := [some (.ref 27), some (.int x1), some (.int x2), none]) (st1 := [.int ((-1))]) rfl ?_
        obtain ⟨rfl, rfl⟩ := h
        exact gk_W_r (i := .ireturn) rfl rfl rfl
  · have h := h.2 hp2
    refine gk_W_s 1 (pc1 := 11) (l1 := [some (.ref 27), some (.int x1), some (.int x2), none]) (st1 := [.ref 27]) rfl ?_
    refine gk_W_h (i := .getfield 17) 14 rfl rfl (h_gr (a := 26) (k := 5) (m := 29) hS ly_26 rfl) rfl ?_
    refine gk_W_s 1 (pc1 := 15) (l1 := [some (.ref 27), some (.int x1), some (.int x2), none]) (st1 := [.int x1, .ref 29]) rfl ?_
    obtain ⟨hb7, h⟩ := h
    refine gk_W_h (i := .iaload) 16 rfl rfl (h_al (a := 28) (scr := none) hS ly_28 hb7) rfl ?_
    refine gk_W_b 2 (x2 ≤ ((w_a w 28).getD x1.toNatClampNeg 0)) (t := 24) (e := 20) (l1 := [some (.ref 27), some (.int x1), some (.int x2), none]) (st1 := []) rfl (fun hp8 => ?_) (fun hp8 => ?_)
    · have h := h.1 hp8
      refine gk_W_s 1 (pc1 := 25) (l1 := [some (.ref 27), some (.int x1), some (.int x2), none]) (st1 := [.int 1]) rfl ?_
      obtain ⟨rfl, rfl⟩ := h
      exact gk_W_r (i := .ireturn) rfl rfl rfl
    · have h := h.2 hp8
      refine gk_W_s 2 (pc1 := 25) (l1 := [some (.ref 27), some (.int x1), some (.int x2), none]) (st1 := [.int ((-1))]) rfl ?_
      obtain ⟨rfl, rfl⟩ := h
      exact gk_W_r (i := .ireturn) rfl rfl rfl
set_option maxRecDepth 8000 in
/-- GrammarDeskModel.compare(II)I, at 60 -/
theorem sg_150_60 {d : Nat} {rr : List gk_S} {w w' : gk_Wd} {r : gk_Res} (hS : gk_Sh rr w) (x1 : Int32) (x3 : Int32)
    (h : (((w_i w 26 12) ≤ x3 → (r = .inl (some (.int 0)) ∧ w' = w)) ∧ (¬ ((w_i w 26 12) ≤ x3) → ((gk_out ((10 * x1) + x3) 640 = false) ∧ (gk_out x3 24 = false ∧ (((f_151 w x1 x3) = ((w_a w 34).getD x3.toNatClampNeg 0) → gk_W none (d + 1) 150 60 [some (.ref 27), some (.int x1), none, some (.int (x3 + 1))] [] w r w') ∧ (¬ ((f_151 w x1 x3) = ((w_a w 34).getD x3.toNatClampNeg 0)) → ((gk_out ((10 * x1) + x3) 640 = false) ∧ (gk_out x3 24 = false ∧ ((((w_a w 34).getD x3.toNatClampNeg 0) ≤ (f_151 w x1 x3) → (r = .inl (some (.int 1)) ∧ w' = w)) ∧ (¬ (((w_a w 34).getD x3.toNatClampNeg 0) ≤ (f_151 w x1 x3)) → (r = .inl (some (.int ((-1)))) ∧ w' = w)))))))))))) :
    gk_W none (d + 1) 150 60 [some (.ref 27), some (.int x1), none, some (.int x3)] [] w r w' := by
  refine gk_W_s 2 (pc1 := 62) (l1 := [some (.ref 27), some (.int x1), none, some (.int x3)]) (st1 := [.ref 27, .int x3]) rfl ?_
  refine gk_W_h (i := .getfield 100) 65 rfl rfl (h_gi (a := 26) (k := 12) hS ly_26 rfl) rfl ?_
  refine gk_W_b 1 ((w_i w 26 12) ≤ x3) (t := 110) (e := 68) (l1 := [some (.ref 27), some (.int x1), none, some (.int x3)]) (st1 := []) rfl (fun hp1 => ?_) (fun hp1 => ?_)
  · have h := h.1 hp1
    refine gk_W_s 1 (pc1 := 111) (l1 := [some (.ref 27), some (.int x1), none, some (.int x3)]) (st1 := [.int 0]) rfl ?_
    obtain ⟨rfl, rfl⟩ := h
    exact gk_W_r (i := .ireturn) rfl rfl rfl
  · have h := h.2 hp1
    refine gk_W_s 3 (pc1 := 71) (l1 := [some (.ref 27), some (.int x1), none, some (.int x3)]) (st1 := [.int x3, .int x1, .ref 27]) rfl ?_
    obtain ⟨hb2, h⟩ := h
    refine gk_W_c (i := .invokevirtual 103) [.int (f_151 w x1 x3)] 74 rfl rfl (c_v (a := 26) hS ly_26 rfl rfl (Nat.le_of_ble_eq_true rfl)) (f_151_E hS x1 x3 hb2) rfl rfl ?_
    refine gk_W_s 1 (pc1 := 75) (l1 := [some (.ref 27), some (.int x1), none, some (.int x3)]) (st1 := [.ref 27, .int (f_151 w x1 x3)]) rfl ?_
    refine gk_W_h (i := .getfield 36) 78 rfl rfl (h_gr (a := 26) (k := 13) (m := 35) hS ly_26 rfl) rfl ?_
    refine gk_W_s 1 (pc1 := 79) (l1 := [some (.ref 27), some (.int x1), none, some (.int x3)]) (st1 := [.int x3, .ref 35, .int (f_151 w x1 x3)]) rfl ?_
    obtain ⟨hb3, h⟩ := h
    refine gk_W_h (i := .iaload) 80 rfl rfl (h_al (a := 34) (scr := none) hS ly_34 hb3) rfl ?_
    refine gk_W_b 1 ((f_151 w x1 x3) = ((w_a w 34).getD x3.toNatClampNeg 0)) (t := 104) (e := 83) (l1 := [some (.ref 27), some (.int x1), none, some (.int x3)]) (st1 := []) rfl (fun hp4 => ?_) (fun hp4 => ?_)
    · have h := h.1 hp4
      refine gk_W_s 2 (pc1 := 60) (l1 := [some (.ref 27), some (.int x1), none, some (.int (x3 + 1))]) (st1 := []) rfl ?_
      exact h
    · have h := h.2 hp4
      refine gk_W_s 3 (pc1 := 86) (l1 := [some (.ref 27), some (.int x1), none, some (.int x3)]) (st1 := [.int x3, .int x1, .ref 27]) rfl ?_
      obtain ⟨hb5, h⟩ := h
      refine gk_W_c (i := .invokevirtual 103) [.int (f_151 w x1 x3)] 89 rfl rfl (c_v (a := 26) hS ly_26 rfl rfl (Nat.le_of_ble_eq_true rfl)) (f_151_E hS x1 x3 hb5) rfl rfl ?_
      refine gk_W_s 1 (pc1 := 90) (l1 := [some (.ref 27), some (.int x1), none, some (.int x3)]) (st1 := [.ref 27, .int (f_151 w x1 x3)]) rfl ?_
      refine gk_W_h (i := .getfield 36) 93 rfl rfl (h_gr (a := 26) (k := 13) (m := 35) hS ly_26 rfl) rfl ?_
      refine gk_W_s 1 (pc1 := 94) (l1 := [some (.ref 27), some (.int x1), none, some (.int x3)]) (st1 := [.int x3, .ref 35, .int (f_151 w x1 x3)]) rfl ?_
      obtain ⟨hb6, h⟩ := h
      refine gk_W_h (i := .iaload) 95 rfl rfl (h_al (a := 34) (scr := none) hS ly_34 hb6) rfl ?_
      refine gk_W_b 1 (((w_a w 34).getD x3.toNatClampNeg 0) ≤ (f_151 w x1 x3)) (t := 102) (e := 98) (l1 := [some (.ref 27), some (.int x1), none, some (.int x3)]) (st1 := []) rfl (fun hp7 => ?_) (fun hp7 => ?_)
      · have h := h.1 hp7
        refine gk_W_s 1 (pc1 := 103) (l1 := [some (.ref 27), some (.int x1), none, some (.int x3)]) (st1 := [.int 1]) rfl ?_
        obtain ⟨rfl, rfl⟩ := h
        exact gk_W_r (i := .ireturn) rfl rfl rfl
      · have h := h.2 hp7
        refine gk_W_s 2 (pc1 := 103) (l1 := [some (.ref 27), some (.int x1), none, some (.int x3)]) (st1 := [.int ((-1))]) rfl ?_
        obtain ⟨rfl, rfl⟩ := h
        exact gk_W_r (i := .ireturn) rfl rfl rfl
set_option maxRecDepth 8000 in
/-- GrammarDeskModel.setRule(II)V, at 0 -/
theorem sg_152_0 {d : Nat} {rr : List gk_S} {w w' : gk_Wd} {r : gk_Res} (hS : gk_Sh rr w) (x1 : Int32) (x2 : Int32)
    (h : (gk_out x2 64 = false ∧ (gk_out x1 64 = false ∧ (gk_out x2 64 = false ∧ (gk_out x1 64 = false ∧ gk_W none d 152 26 [some (.ref 27), some (.int x1), some (.int x2), some (.int 0)] [] (w_sa (w_sa w 28 ((w_a w 28).set x1.toNatClampNeg ((w_a w 28).getD x2.toNatClampNeg 0))) 29 ((w_a (w_sa w 28 ((w_a w 28).set x1.toNatClampNeg ((w_a w 28).getD x2.toNatClampNeg 0))) 29).set x1.toNatClampNeg ((w_a (w_sa w 28 ((w_a w 28).set x1.toNatClampNeg ((w_a w 28).getD x2.toNatClampNeg 0))) 29).getD x2.toNatClampNeg 0))) r w'))))) :
    gk_W none d 152 0 [some (.ref 27), some (.int x1), some (.int x2), none] [] w r w' := by
  refine gk_W_s 1 (pc1 := 1) (l1 := [some (.ref 27), some (.int x1), some (.int x2), none]) (st1 := [.ref 27]) rfl ?_
  refine gk_W_h (i := .getfield 17) 4 rfl rfl (h_gr (a := 26) (k := 5) (m := 29) hS ly_26 rfl) rfl ?_
  refine gk_W_s 2 (pc1 := 6) (l1 := [some (.ref 27), some (.int x1), some (.int x2), none]) (st1 := [.ref 27, .int x1, .ref 29]) rfl ?_
  refine gk_W_h (i := .getfield 17) 9 rfl rfl (h_gr (a := 26) (k := 5) (m := 29) hS ly_26 rfl) rfl ?_
  refine gk_W_s 1 (pc1 := 10) (l1 := [some (.ref 27), some (.int x1), some (.int x2), none]) (st1 := [.int x2, .ref 29, .int x1, .ref 29]) rfl ?_
  obtain ⟨hb1, h⟩ := h
  refine gk_W_h (i := .iaload) 11 rfl rfl (h_al (a := 28) (scr := none) hS ly_28 hb1) rfl ?_
  obtain ⟨hb2, h⟩ := h
  refine gk_W_h (i := .iastore) 12 rfl rfl (h_as (a := 28) (t := 0) hS ly_28 hb2 rfl) rfl ?_
  refine gk_W_s 1 (pc1 := 13) (l1 := [some (.ref 27), some (.int x1), some (.int x2), none]) (st1 := [.ref 27]) rfl ?_
  refine gk_W_h (i := .getfield 21) 16 rfl rfl (h_gr (a := 26) (k := 6) (m := 30) (sh_as hS ly_28 (x1.toNatClampNeg) ((w_a w 28).getD x2.toNatClampNeg 0)) ly_26 rfl) rfl ?_
  refine gk_W_s 2 (pc1 := 18) (l1 := [some (.ref 27), some (.int x1), some (.int x2), none]) (st1 := [.ref 27, .int x1, .ref 30]) rfl ?_
  refine gk_W_h (i := .getfield 21) 21 rfl rfl (h_gr (a := 26) (k := 6) (m := 30) (sh_as hS ly_28 (x1.toNatClampNeg) ((w_a w 28).getD x2.toNatClampNeg 0)) ly_26 rfl) rfl ?_
  refine gk_W_s 1 (pc1 := 22) (l1 := [some (.ref 27), some (.int x1), some (.int x2), none]) (st1 := [.int x2, .ref 30, .int x1, .ref 30]) rfl ?_
  obtain ⟨hb3, h⟩ := h
  refine gk_W_h (i := .iaload) 23 rfl rfl (h_al (a := 29) (scr := none) (sh_as hS ly_28 (x1.toNatClampNeg) ((w_a w 28).getD x2.toNatClampNeg 0)) ly_29 hb3) rfl ?_
  obtain ⟨hb4, h⟩ := h
  refine gk_W_h (i := .iastore) 24 rfl rfl (h_as (a := 29) (t := 0) (sh_as hS ly_28 (x1.toNatClampNeg) ((w_a w 28).getD x2.toNatClampNeg 0)) ly_29 hb4 rfl) rfl ?_
  refine gk_W_s 2 (pc1 := 26) (l1 := [some (.ref 27), some (.int x1), some (.int x2), some (.int 0)]) (st1 := []) rfl ?_
  exact h
set_option maxRecDepth 8000 in
/-- GrammarDeskModel.setRule(II)V, at 26 -/
theorem sg_152_26 {d : Nat} {rr : List gk_S} {w w' : gk_Wd} {r : gk_Res} (hS : gk_Sh rr w) (x1 : Int32) (x2 : Int32) (x3 : Int32)
    (h : ((10 ≤ x3 → (r = .inl none ∧ w' = w)) ∧ (¬ (10 ≤ x3) → (gk_out ((10 * x2) + x3) 640 = false ∧ (gk_out ((10 * x1) + x3) 640 = false ∧ gk_W none d 152 26 [some (.ref 27), some (.int x1), some (.int x2), some (.int (x3 + 1))] [] (w_sa w 30 ((w_a w 30).set ((10 * x1) + x3).toNatClampNeg ((w_a w 30).getD ((10 * x2) + x3).toNatClampNeg 0))) r w'))))) :
    gk_W none d 152 26 [some (.ref 27), some (.int x1), some (.int x2), some (.int x3)] [] w r w' := by
  refine gk_W_b 3 (10 ≤ x3) (t := 60) (e := 32) (l1 := [some (.ref 27), some (.int x1), some (.int x2), some (.int x3)]) (st1 := []) rfl (fun hp1 => ?_) (fun hp1 => ?_)
  · have h := h.1 hp1
    obtain ⟨rfl, rfl⟩ := h
    exact gk_W_r (i := .return_) rfl rfl rfl
  · have h := h.2 hp1
    refine gk_W_s 1 (pc1 := 33) (l1 := [some (.ref 27), some (.int x1), some (.int x2), some (.int x3)]) (st1 := [.ref 27]) rfl ?_
    refine gk_W_h (i := .getfield 24) 36 rfl rfl (h_gr (a := 26) (k := 7) (m := 31) hS ly_26 rfl) rfl ?_
    refine gk_W_s 6 (pc1 := 43) (l1 := [some (.ref 27), some (.int x1), some (.int x2), some (.int x3)]) (st1 := [.ref 27, .int ((10 * x1) + x3), .ref 31]) rfl ?_
    refine gk_W_h (i := .getfield 24) 46 rfl rfl (h_gr (a := 26) (k := 7) (m := 31) hS ly_26 rfl) rfl ?_
    refine gk_W_s 5 (pc1 := 52) (l1 := [some (.ref 27), some (.int x1), some (.int x2), some (.int x3)]) (st1 := [.int ((10 * x2) + x3), .ref 31, .int ((10 * x1) + x3), .ref 31]) rfl ?_
    obtain ⟨hb2, h⟩ := h
    refine gk_W_h (i := .iaload) 53 rfl rfl (h_al (a := 30) (scr := none) hS ly_30 hb2) rfl ?_
    obtain ⟨hb3, h⟩ := h
    refine gk_W_h (i := .iastore) 54 rfl rfl (h_as (a := 30) (t := 0) hS ly_30 hb3 rfl) rfl ?_
    refine gk_W_s 2 (pc1 := 26) (l1 := [some (.ref 27), some (.int x1), some (.int x2), some (.int (x3 + 1))]) (st1 := []) rfl ?_
    exact h
set_option maxRecDepth 8000 in
/-- GrammarDeskModel.place()I, at 0 -/
theorem sg_153_0 {d : Nat} {rr : List gk_S} {w w' : gk_Wd} {r : gk_Res} (hS : gk_Sh rr w)
    (h : (r = .inl (some (.int (w_i (w_si w 26 0 0) 26 3))) ∧ w' = w_si w 26 0 0)) :
    gk_W none d 153 0 [some (.ref 27)] [] w r w' := by
  refine gk_W_s 2 (pc1 := 2) (l1 := [some (.ref 27)]) (st1 := [.int 0, .ref 27]) rfl ?_
  refine gk_W_h (i := .putfield 97) 5 rfl rfl (h_pi (a := 26) (k := 0) (x := 0) hS ly_26 rfl rfl) rfl ?_
  refine gk_W_s 1 (pc1 := 6) (l1 := [some (.ref 27)]) (st1 := [.ref 27]) rfl ?_
  refine gk_W_h (i := .getfield 13) 9 rfl rfl (h_gi (a := 26) (k := 3) (sh_si hS ly_26 (k := 0) rfl 0) ly_26 rfl) rfl ?_
  obtain ⟨rfl, rfl⟩ := h
  exact gk_W_r (i := .ireturn) rfl rfl rfl
set_option maxRecDepth 8000 in
/-- GrammarDeskModel.takeOut(I)V, at 0 -/
theorem sg_155_0 {d : Nat} {rr : List gk_S} {w w' : gk_Wd} {r : gk_Res} (hS : gk_Sh rr w) (x1 : Int32)
    (h : gk_W none (d + 1) 155 2 [some (.ref 27), none, some (.int x1)] [] w r w') :
    gk_W none (d + 1) 155 0 [some (.ref 27), some (.int x1), none] [] w r w' := by
  refine gk_W_s 2 (pc1 := 2) (l1 := [some (.ref 27), some (.int x1), some (.int x1)]) (st1 := []) rfl ?_
  exact gk_W_le (gk_le_s (gk_le_n (gk_le_s (gk_le_0)))) h
set_option maxRecDepth 8000 in
/-- GrammarDeskModel.takeOut(I)V, at 2 -/
theorem sg_155_2 {d : Nat} {rr : List gk_S} {w w' : gk_Wd} {r : gk_Res} (hS : gk_Sh rr w) (x2 : Int32)
    (h : (((w_i w 26 4) ≤ (x2 + 1) → (r = .inl none ∧ w' = w_si w 26 4 ((w_i w 26 4) - 1))) ∧ (¬ ((w_i w 26 4) ≤ (x2 + 1)) → (∃ (w3 : gk_Wd), gk_E d 152 [.ref 27, .int x2, .int (x2 + 1)] w (.inl none) w3 ∧ gk_Sh rr w3 ∧ gk_W none (d + 1) 155 2 [some (.ref 27), none, some (.int (x2 + 1))] [] w3 r w')))) :
    gk_W none (d + 1) 155 2 [some (.ref 27), none, some (.int x2)] [] w r w' := by
  refine gk_W_s 4 (pc1 := 6) (l1 := [some (.ref 27), none, some (.int x2)]) (st1 := [.ref 27, .int (x2 + 1)]) rfl ?_
  refine gk_W_h (i := .getfield 111) 9 rfl rfl (h_gi (a := 26) (k := 4) hS ly_26 rfl) rfl ?_
  refine gk_W_b 1 ((w_i w 26 4) ≤ (x2 + 1)) (t := 26) (e := 12) (l1 := [some (.ref 27), none, some (.int x2)]) (st1 := []) rfl (fun hp1 => ?_) (fun hp1 => ?_)
  · have h := h.1 hp1
    refine gk_W_s 2 (pc1 := 28) (l1 := [some (.ref 27), none, some (.int x2)]) (st1 := [.ref 27, .ref 27]) rfl ?_
    refine gk_W_h (i := .getfield 111) 31 rfl rfl (h_gi (a := 26) (k := 4) hS ly_26 rfl) rfl ?_
    refine gk_W_s 2 (pc1 := 33) (l1 := [some (.ref 27), none, some (.int x2)]) (st1 := [.int ((w_i w 26 4) - 1), .ref 27]) rfl ?_
    refine gk_W_h (i := .putfield 111) 36 rfl rfl (h_pi (a := 26) (k := 4) (x := (w_i w 26 4) - 1) hS ly_26 rfl rfl) rfl ?_
    obtain ⟨rfl, rfl⟩ := h
    exact gk_W_r (i := .return_) rfl rfl rfl
  · have h := h.2 hp1
    refine gk_W_s 5 (pc1 := 17) (l1 := [some (.ref 27), none, some (.int x2)]) (st1 := [.int (x2 + 1), .int x2, .ref 27]) rfl ?_
    obtain ⟨w3, hE2, hS4, h⟩ := h
    refine gk_W_c (i := .invokevirtual 117) [] 20 rfl rfl (c_v (a := 26) hS ly_26 rfl rfl (Nat.le_of_ble_eq_true rfl)) hE2 rfl rfl ?_
    refine gk_W_s 2 (pc1 := 2) (l1 := [some (.ref 27), none, some (.int (x2 + 1))]) (st1 := []) rfl ?_
    exact h
set_option maxRecDepth 8000 in
/-- GrammarDeskModel.clear()I, at 0 -/
theorem sg_156_0 {d : Nat} {rr : List gk_S} {w w' : gk_Wd} {r : gk_Res} (hS : gk_Sh rr w)
    (h : (((w_i (w_si w 26 0 0) 26 4) ≤ 0 → (r = .inl (some (.int (w_i (w_si w 26 0 0) 26 4))) ∧ w' = w_si (w_si w 26 0 0) 26 4 0)) ∧ (¬ ((w_i (w_si w 26 0 0) 26 4) ≤ 0) → (r = .inl (some (.int (w_i (w_si w 26 0 0) 26 4))) ∧ w' = w_si (w_si (w_si w 26 0 0) 26 4 0) 26 28 0)))) :
    gk_W none d 156 0 [some (.ref 27), none] [] w r w' := by
  refine gk_W_s 2 (pc1 := 2) (l1 := [some (.ref 27), none]) (st1 := [.int 0, .ref 27]) rfl ?_
  refine gk_W_h (i := .putfield 97) 5 rfl rfl (h_pi (a := 26) (k := 0) (x := 0) hS ly_26 rfl rfl) rfl ?_
  refine gk_W_s 1 (pc1 := 6) (l1 := [some (.ref 27), none]) (st1 := [.ref 27]) rfl ?_
  refine gk_W_h (i := .getfield 111) 9 rfl rfl (h_gi (a := 26) (k := 4) (sh_si hS ly_26 (k := 0) rfl 0) ly_26 rfl) rfl ?_
  refine gk_W_s 3 (pc1 := 12) (l1 := [some (.ref 27), some (.int (w_i (w_si w 26 0 0) 26 4))]) (st1 := [.int 0, .ref 27]) rfl ?_
  refine gk_W_h (i := .putfield 111) 15 rfl rfl (h_pi (a := 26) (k := 4) (x := 0) (sh_si hS ly_26 (k := 0) rfl 0) ly_26 rfl rfl) rfl ?_
  refine gk_W_b 2 ((w_i (w_si w 26 0 0) 26 4) ≤ 0) (t := 24) (e := 19) (l1 := [some (.ref 27), some (.int (w_i (w_si w 26 0 0) 26 4))]) (st1 := []) rfl (fun hp1 => ?_) (fun hp1 => ?_)
  · have h := h.1 hp1
    refine gk_W_s 1 (pc1 := 25) (l1 := [some (.ref 27), some (.int (w_i (w_si w 26 0 0) 26 4))]) (st1 := [.int (w_i (w_si w 26 0 0) 26 4)]) rfl ?_
    obtain ⟨rfl, rfl⟩ := h
    exact gk_W_r (i := .ireturn) rfl rfl rfl
  · have h := h.2 hp1
    refine gk_W_s 2 (pc1 := 21) (l1 := [some (.ref 27), some (.int (w_i (w_si w 26 0 0) 26 4))]) (st1 := [.int 0, .ref 27]) rfl ?_
    refine gk_W_h (i := .putfield 138) 24 rfl rfl (h_pi (a := 26) (k := 28) (x := 0) (sh_si (sh_si hS ly_26 (k := 0) rfl 0) ly_26 (k := 4) rfl 0) ly_26 rfl rfl) rfl ?_
    refine gk_W_s 1 (pc1 := 25) (l1 := [some (.ref 27), some (.int (w_i (w_si w 26 0 0) 26 4))]) (st1 := [.int (w_i (w_si w 26 0 0) 26 4)]) rfl ?_
    obtain ⟨rfl, rfl⟩ := h
    exact gk_W_r (i := .ireturn) rfl rfl rfl
set_option maxRecDepth 8000 in
/-- GrammarDeskModel.rules()I, at 0 -/
theorem sg_157_0 {d : Nat} {rr : List gk_S} {w w' : gk_Wd} {r : gk_Res} (hS : gk_Sh rr w)
    (h : (r = .inl (some (.int (w_i (w_si w 26 0 0) 26 4))) ∧ w' = w_si w 26 0 0)) :
    gk_W none d 157 0 [some (.ref 27)] [] w r w' := by
  refine gk_W_s 2 (pc1 := 2) (l1 := [some (.ref 27)]) (st1 := [.int 0, .ref 27]) rfl ?_
  refine gk_W_h (i := .putfield 97) 5 rfl rfl (h_pi (a := 26) (k := 0) (x := 0) hS ly_26 rfl rfl) rfl ?_
  refine gk_W_s 1 (pc1 := 6) (l1 := [some (.ref 27)]) (st1 := [.ref 27]) rfl ?_
  refine gk_W_h (i := .getfield 111) 9 rfl rfl (h_gi (a := 26) (k := 4) (sh_si hS ly_26 (k := 0) rfl 0) ly_26 rfl) rfl ?_
  obtain ⟨rfl, rfl⟩ := h
  exact gk_W_r (i := .ireturn) rfl rfl rfl
set_option maxRecDepth 8000 in
/-- GrammarDeskModel.useful()I, at 0 -/
theorem sg_160_0 {d : Nat} {rr : List gk_S} {w w' : gk_Wd} {r : gk_Res} (hS : gk_Sh rr w)
    (h : (∃ (v2 : Int32), ∃ (w3 : gk_Wd), gk_E d 161 [.ref 27] (w_si w 26 0 0) (.inl (some (.int v2))) w3 ∧ gk_Sh rr w3 ∧ ((v2 ≤ 0 → (r = .inl (some (.int v2)) ∧ w' = w3)) ∧ (¬ (v2 ≤ 0) → (r = .inl (some (.int v2)) ∧ w' = w_si w3 26 28 0))))) :
    gk_W none (d + 1) 160 0 [some (.ref 27), none] [] w r w' := by
  refine gk_W_s 2 (pc1 := 2) (l1 := [some (.ref 27), none]) (st1 := [.int 0, .ref 27]) rfl ?_
  refine gk_W_h (i := .putfield 97) 5 rfl rfl (h_pi (a := 26) (k := 0) (x := 0) hS ly_26 rfl rfl) rfl ?_
  refine gk_W_s 1 (pc1 := 6) (l1 := [some (.ref 27), none]) (st1 := [.ref 27]) rfl ?_
  obtain ⟨v2, w3, hE1, hS4, h⟩ := h
  refine gk_W_c (i := .invokevirtual 183) [.int v2] 9 rfl rfl (c_v (a := 26) (sh_si hS ly_26 (k := 0) rfl 0) ly_26 rfl rfl (Nat.le_of_ble_eq_true rfl)) hE1 rfl rfl ?_
  refine gk_W_b 3 (v2 ≤ 0) (t := 19) (e := 14) (l1 := [some (.ref 27), some (.int v2)]) (st1 := []) rfl (fun hp5 => ?_) (fun hp5 => ?_)
  · have h := h.1 hp5
    refine gk_W_s 1 (pc1 := 20) (l1 := [some (.ref 27), some (.int v2)]) (st1 := [.int v2]) rfl ?_
    obtain ⟨rfl, rfl⟩ := h
    exact gk_W_r (i := .ireturn) rfl rfl rfl
  · have h := h.2 hp5
    refine gk_W_s 2 (pc1 := 16) (l1 := [some (.ref 27), some (.int v2)]) (st1 := [.int 0, .ref 27]) rfl ?_
    refine gk_W_h (i := .putfield 138) 19 rfl rfl (h_pi (a := 26) (k := 28) (x := 0) hS4 ly_26 rfl rfl) rfl ?_
    refine gk_W_s 1 (pc1 := 20) (l1 := [some (.ref 27), some (.int v2)]) (st1 := [.int v2]) rfl ?_
    obtain ⟨rfl, rfl⟩ := h
    exact gk_W_r (i := .ireturn) rfl rfl rfl
set_option maxRecDepth 8000 in
/-- GrammarDeskModel.takeUseless()I, at 0 -/
theorem sg_161_0 {d : Nat} {rr : List gk_S} {w w' : gk_Wd} {r : gk_Res} (hS : gk_Sh rr w)
    (h : (∃ (w2 : gk_Wd), gk_E d 162 [.ref 27] w (.inl none) w2 ∧ gk_Sh rr w2 ∧ gk_W none (d + 1) 161 16 [some (.ref 27), some (.int (w_i w 26 4)), some (.int ((w_i w2 26 4) - 1))] [] w2 r w')) :
    gk_W none (d + 1) 161 0 [some (.ref 27), none, none] [] w r w' := by
  refine gk_W_s 1 (pc1 := 1) (l1 := [some (.ref 27), none, none]) (st1 := [.ref 27]) rfl ?_
  refine gk_W_h (i := .getfield 111) 4 rfl rfl (h_gi (a := 26) (k := 4) hS ly_26 rfl) rfl ?_
  refine gk_W_s 2 (pc1 := 6) (l1 := [some (.ref 27), some (.int (w_i w 26 4)), none]) (st1 := [.ref 27]) rfl ?_
  obtain ⟨w2, hE1, hS3, h⟩ := h
  refine gk_W_c (i := .invokevirtual 174) [] 9 rfl rfl (c_v (a := 26) hS ly_26 rfl rfl (Nat.le_of_ble_eq_true rfl)) hE1 rfl rfl ?_
  refine gk_W_s 1 (pc1 := 10) (l1 := [some (.ref 27), some (.int (w_i w 26 4)), none]) (st1 := [.ref 27]) rfl ?_
  refine gk_W_h (i := .getfield 111) 13 rfl rfl (h_gi (a := 26) (k := 4) hS3 ly_26 rfl) rfl ?_
  refine gk_W_s 3 (pc1 := 16) (l1 := [some (.ref 27), some (.int (w_i w 26 4)), some (.int ((w_i w2 26 4) - 1))]) (st1 := []) rfl ?_
  exact h
set_option maxRecDepth 8000 in
/-- GrammarDeskModel.takeUseless()I, at 16 -/
theorem sg_161_16 {d : Nat} {rr : List gk_S} {w w' : gk_Wd} {r : gk_Res} (hS : gk_Sh rr w) (x1 : Int32) (x2 : Int32)
    (h : ((x2 < 0 → (∃ (w3 : gk_Wd), gk_E d 165 [.ref 27] w (.inl none) w3 ∧ gk_Sh rr w3 ∧ gk_W none (d + 1) 161 50 [some (.ref 27), some (.int x1), some (.int ((w_i w3 26 4) - 1))] [] w3 r w')) ∧ (¬ (x2 < 0) → (∃ (v6 : Int32), gk_E d 164 [.ref 27, .int x2] w (.inl (some (.int v6))) w ∧ ((v6 = 0 → gk_W none (d + 1) 161 16 [some (.ref 27), some (.int x1), some (.int (x2 + (-1)))] [] w r w') ∧ (¬ (v6 = 0) → (∃ (w9 : gk_Wd), gk_E d 155 [.ref 27, .int x2] w (.inl none) w9 ∧ gk_Sh rr w9 ∧ gk_W none (d + 1) 161 16 [some (.ref 27), some (.int x1), some (.int (x2 + (-1)))] [] w9 r w'))))))) :
    gk_W none (d + 1) 161 16 [some (.ref 27), some (.int x1), some (.int x2)] [] w r w' := by
  refine gk_W_b 2 (x2 < 0) (t := 39) (e := 20) (l1 := [some (.ref 27), some (.int x1), some (.int x2)]) (st1 := []) rfl (fun hp1 => ?_) (fun hp1 => ?_)
  · have h := h.1 hp1
    refine gk_W_s 1 (pc1 := 40) (l1 := [some (.ref 27), some (.int x1), some (.int x2)]) (st1 := [.ref 27]) rfl ?_
    obtain ⟨w3, hE2, hS4, h⟩ := h
    refine gk_W_c (i := .invokevirtual 180) [] 43 rfl rfl (c_v (a := 26) hS ly_26 rfl rfl (Nat.le_of_ble_eq_true rfl)) hE2 rfl rfl ?_
    refine gk_W_s 1 (pc1 := 44) (l1 := [some (.ref 27), some (.int x1), some (.int x2)]) (st1 := [.ref 27]) rfl ?_
    refine gk_W_h (i := .getfield 111) 47 rfl rfl (h_gi (a := 26) (k := 4) hS4 ly_26 rfl) rfl ?_
    refine gk_W_s 3 (pc1 := 50) (l1 := [some (.ref 27), some (.int x1), some (.int ((w_i w3 26 4) - 1))]) (st1 := []) rfl ?_
    exact h
  · have h := h.2 hp1
    refine gk_W_s 2 (pc1 := 22) (l1 := [some (.ref 27), some (.int x1), some (.int x2)]) (st1 := [.int x2, .ref 27]) rfl ?_
    obtain ⟨v6, hE5, h⟩ := h
    refine gk_W_c (i := .invokevirtual 177) [.int v6] 25 rfl rfl (c_v (a := 26) hS ly_26 rfl rfl (Nat.le_of_ble_eq_true rfl)) hE5 rfl rfl ?_
    refine gk_W_b 1 (v6 = 0) (t := 33) (e := 28) (l1 := [some (.ref 27), some (.int x1), some (.int x2)]) (st1 := []) rfl (fun hp7 => ?_) (fun hp7 => ?_)
    · have h := h.1 hp7
      refine gk_W_s 2 (pc1 := 16) (l1 := [some (.ref 27), some (.int x1), some (.int (x2 + (-1)))]) (st1 := []) rfl ?_
      exact h
    · have h := h.2 hp7
      refine gk_W_s 2 (pc1 := 30) (l1 := [some (.ref 27), some (.int x1), some (.int x2)]) (st1 := [.int x2, .ref 27]) rfl ?_
      obtain ⟨w9, hE8, hS10, h⟩ := h
      refine gk_W_c (i := .invokevirtual 158) [] 33 rfl rfl (c_v (a := 26) hS ly_26 rfl rfl (Nat.le_of_ble_eq_true rfl)) hE8 rfl rfl ?_
      refine gk_W_s 2 (pc1 := 16) (l1 := [some (.ref 27), some (.int x1), some (.int (x2 + (-1)))]) (st1 := []) rfl ?_
      exact h
set_option maxRecDepth 8000 in
/-- GrammarDeskModel.takeUseless()I, at 50 -/
theorem sg_161_50 {d : Nat} {rr : List gk_S} {w w' : gk_Wd} {r : gk_Res} (hS : gk_Sh rr w) (x1 : Int32) (x2 : Int32)
    (h : ((x2 < 0 → (r = .inl (some (.int (x1 - (w_i w 26 4)))) ∧ w' = w)) ∧ (¬ (x2 < 0) → (gk_out x2 64 = false ∧ (gk_out ((w_a w 28).getD x2.toNatClampNeg 0) 16 = false ∧ ((¬ ((w_a w 37).getD ((w_a w 28).getD x2.toNatClampNeg 0).toNatClampNeg 0) = 0 → gk_W none (d + 1) 161 50 [some (.ref 27), some (.int x1), some (.int (x2 + (-1)))] [] w r w') ∧ (((w_a w 37).getD ((w_a w 28).getD x2.toNatClampNeg 0).toNatClampNeg 0) = 0 → (∃ (w6 : gk_Wd), gk_E d 155 [.ref 27, .int x2] w (.inl none) w6 ∧ gk_Sh rr w6 ∧ gk_W none (d + 1) 161 50 [some (.ref 27), some (.int x1), some (.int (x2 + (-1)))] [] w6 r w')))))))) :
    gk_W none (d + 1) 161 50 [some (.ref 27), some (.int x1), some (.int x2)] [] w r w' := by
  refine gk_W_b 2 (x2 < 0) (t := 79) (e := 54) (l1 := [some (.ref 27), some (.int x1), some (.int x2)]) (st1 := []) rfl (fun hp1 => ?_) (fun hp1 => ?_)
  · have h := h.1 hp1
    refine gk_W_s 2 (pc1 := 81) (l1 := [some (.ref 27), some (.int x1), some (.int x2)]) (st1 := [.ref 27, .int x1]) rfl ?_
    refine gk_W_h (i := .getfield 111) 84 rfl rfl (h_gi (a := 26) (k := 4) hS ly_26 rfl) rfl ?_
    refine gk_W_s 1 (pc1 := 85) (l1 := [some (.ref 27), some (.int x1), some (.int x2)]) (st1 := [.int (x1 - (w_i w 26 4))]) rfl ?_
    obtain ⟨rfl, rfl⟩ := h
    exact gk_W_r (i := .ireturn) rfl rfl rfl
  · have h := h.2 hp1
    refine gk_W_s 1 (pc1 := 55) (l1 := [some (.ref 27), some (.int x1), some (.int x2)]) (st1 := [.ref 27]) rfl ?_
    refine gk_W_h (i := .getfield 46) 58 rfl rfl (h_gr (a := 26) (k := 18) (m := 38) hS ly_26 rfl) rfl ?_
    refine gk_W_s 1 (pc1 := 59) (l1 := [some (.ref 27), some (.int x1), some (.int x2)]) (st1 := [.ref 27, .ref 38]) rfl ?_
    refine gk_W_h (i := .getfield 17) 62 rfl rfl (h_gr (a := 26) (k := 5) (m := 29) hS ly_26 rfl) rfl ?_
    refine gk_W_s 1 (pc1 := 63) (l1 := [some (.ref 27), some (.int x1), some (.int x2)]) (st1 := [.int x2, .ref 29, .ref 38]) rfl ?_
    obtain ⟨hb2, h⟩ := h
    refine gk_W_h (i := .iaload) 64 rfl rfl (h_al (a := 28) (scr := none) hS ly_28 hb2) rfl ?_
    obtain ⟨hb3, h⟩ := h
    refine gk_W_h (i := .baload) 65 rfl rfl (h_al (a := 37) (scr := none) hS ly_37 hb3) rfl ?_
    refine gk_W_b 1 (¬ ((w_a w 37).getD ((w_a w 28).getD x2.toNatClampNeg 0).toNatClampNeg 0) = 0) (t := 73) (e := 68) (l1 := [some (.ref 27), some (.int x1), some (.int x2)]) (st1 := []) rfl (fun hp4 => ?_) (fun hp4 => ?_)
    · have h := h.1 hp4
      refine gk_W_s 2 (pc1 := 50) (l1 := [some (.ref 27), some (.int x1), some (.int (x2 + (-1)))]) (st1 := []) rfl ?_
      exact h
    · have h := h.2 (Decidable.not_not.mp hp4)
      refine gk_W_s 2 (pc1 := 70) (l1 := [some (.ref 27), some (.int x1), some (.int x2)]) (st1 := [.int x2, .ref 27]) rfl ?_
      obtain ⟨w6, hE5, hS7, h⟩ := h
      refine gk_W_c (i := .invokevirtual 158) [] 73 rfl rfl (c_v (a := 26) hS ly_26 rfl rfl (Nat.le_of_ble_eq_true rfl)) hE5 rfl rfl ?_
      refine gk_W_s 2 (pc1 := 50) (l1 := [some (.ref 27), some (.int x1), some (.int (x2 + (-1)))]) (st1 := []) rfl ?_
      exact h
set_option maxRecDepth 8000 in
/-- GrammarDeskModel.findFruitful()V, at 0 -/
theorem sg_162_0 {d : Nat} {rr : List gk_S} {w w' : gk_Wd} {r : gk_Res} (hS : gk_Sh rr w)
    (h : gk_W none (d + 1) 162 2 [some (.ref 27), some (.int 0), none, none, none] [] w r w') :
    gk_W none (d + 1) 162 0 [some (.ref 27), none, none, none, none] [] w r w' := by
  refine gk_W_s 2 (pc1 := 2) (l1 := [some (.ref 27), some (.int 0), none, none, none]) (st1 := []) rfl ?_
  exact h
set_option maxRecDepth 8000 in
/-- GrammarDeskModel.findFruitful()V, at 2 -/
theorem sg_162_2 {d : Nat} {rr : List gk_S} {w w' : gk_Wd} {r : gk_Res} (hS : gk_Sh rr w) (x1 : Int32)
    (h : ((16 ≤ x1 → gk_W none (d + 1) 162 23 [some (.ref 27), some (.int 1), none, none, none] [] w r w') ∧ (¬ (16 ≤ x1) → (gk_out x1 16 = false ∧ gk_W none (d + 1) 162 2 [some (.ref 27), some (.int (x1 + 1)), none, none, none] [] (w_sa w 36 ((w_a w 36).set x1.toNatClampNeg 0)) r w')))) :
    gk_W none (d + 1) 162 2 [some (.ref 27), some (.int x1), none, none, none] [] w r w' := by
  refine gk_W_b 3 (16 ≤ x1) (t := 21) (e := 8) (l1 := [some (.ref 27), some (.int x1), none, none, none]) (st1 := []) rfl (fun hp1 => ?_) (fun hp1 => ?_)
  · have h := h.1 hp1
    refine gk_W_s 2 (pc1 := 23) (l1 := [some (.ref 27), some (.int 1), none, none, none]) (st1 := []) rfl ?_
    exact h
  · have h := h.2 hp1
    refine gk_W_s 1 (pc1 := 9) (l1 := [some (.ref 27), some (.int x1), none, none, none]) (st1 := [.ref 27]) rfl ?_
    refine gk_W_h (i := .getfield 43) 12 rfl rfl (h_gr (a := 26) (k := 17) (m := 37) hS ly_26 rfl) rfl ?_
    refine gk_W_s 2 (pc1 := 14) (l1 := [some (.ref 27), some (.int x1), none, none, none]) (st1 := [.int 0, .int x1, .ref 37]) rfl ?_
    obtain ⟨hb2, h⟩ := h
    refine gk_W_h (i := .bastore) 15 rfl rfl (h_as (a := 36) (t := 2) hS ly_36 hb2 rfl) rfl ?_
    refine gk_W_s 2 (pc1 := 2) (l1 := [some (.ref 27), some (.int (x1 + 1)), none, none, none]) (st1 := []) rfl ?_
    exact h
set_option maxRecDepth 8000 in
/-- GrammarDeskModel.findFruitful()V, at 23 -/
theorem sg_162_23 {d : Nat} {rr : List gk_S} {w w' : gk_Wd} {r : gk_Res} (hS : gk_Sh rr w) (x1 : Int32)
    (h : ((x1 = 0 → (r = .inl none ∧ w' = w)) ∧ (¬ (x1 = 0) → gk_W none (d + 1) 162 31 [some (.ref 27), some (.int 0), some (.int 0), none, none] [] w r w'))) :
    gk_W none (d + 1) 162 23 [some (.ref 27), some (.int x1), none, none, none] [] w r w' := by
  refine gk_W_b 2 (x1 = 0) (t := 151) (e := 27) (l1 := [some (.ref 27), some (.int x1), none, none, none]) (st1 := []) rfl (fun hp1 => ?_) (fun hp1 => ?_)
  · have h := h.1 hp1
    obtain ⟨rfl, rfl⟩ := h
    exact gk_W_r (i := .return_) rfl rfl rfl
  · have h := h.2 hp1
    refine gk_W_s 4 (pc1 := 31) (l1 := [some (.ref 27), some (.int 0), some (.int 0), none, none]) (st1 := []) rfl ?_
    exact h
set_option maxRecDepth 8000 in
/-- GrammarDeskModel.findFruitful()V, at 31 -/
theorem sg_162_31 {d : Nat} {rr : List gk_S} {w w' : gk_Wd} {r : gk_Res} (hS : gk_Sh rr w) (x1 : Int32) (x2 : Int32)
    (h : (((w_i w 26 4) ≤ x2 → gk_W none (d + 1) 162 23 [some (.ref 27), some (.int x1), none, none, none] [] w r w') ∧ (¬ ((w_i w 26 4) ≤ x2) → (gk_out x2 64 = false ∧ (gk_out ((w_a w 28).getD x2.toNatClampNeg 0) 16 = false ∧ ((((w_a w 36).getD ((w_a w 28).getD x2.toNatClampNeg 0).toNatClampNeg 0) = 0 → gk_W none (d + 1) 162 61 [some (.ref 27), some (.int x1), some (.int x2), some (.int 1), some (.int 0)] [] w r w') ∧ (¬ (((w_a w 36).getD ((w_a w 28).getD x2.toNatClampNeg 0).toNatClampNeg 0) = 0) → gk_W none (d + 1) 162 31 [some (.ref 27), some (.int x1), some (.int (x2 + 1)), none, none] [] w r w'))))))) :
    gk_W none (d + 1) 162 31 [some (.ref 27), some (.int x1), some (.int x2), none, none] [] w r w' := by
  refine gk_W_s 2 (pc1 := 33) (l1 := [some (.ref 27), some (.int x1), some (.int x2), none, none]) (st1 := [.ref 27, .int x2]) rfl ?_
  refine gk_W_h (i := .getfield 111) 36 rfl rfl (h_gi (a := 26) (k := 4) hS ly_26 rfl) rfl ?_
  refine gk_W_b 1 ((w_i w 26 4) ≤ x2) (t := 148) (e := 39) (l1 := [some (.ref 27), some (.int x1), some (.int x2), none, none]) (st1 := []) rfl (fun hp1 => ?_) (fun hp1 => ?_)
  · have h := h.1 hp1
    refine gk_W_s 1 (pc1 := 23) (l1 := [some (.ref 27), some (.int x1), some (.int x2), none, none]) (st1 := []) rfl ?_
    exact gk_W_le (gk_le_s (gk_le_s (gk_le_n (gk_le_s (gk_le_s (gk_le_0)))))) h
  · have h := h.2 hp1
    refine gk_W_s 1 (pc1 := 40) (l1 := [some (.ref 27), some (.int x1), some (.int x2), none, none]) (st1 := [.ref 27]) rfl ?_
    refine gk_W_h (i := .getfield 43) 43 rfl rfl (h_gr (a := 26) (k := 17) (m := 37) hS ly_26 rfl) rfl ?_
    refine gk_W_s 1 (pc1 := 44) (l1 := [some (.ref 27), some (.int x1), some (.int x2), none, none]) (st1 := [.ref 27, .ref 37]) rfl ?_
    refine gk_W_h (i := .getfield 17) 47 rfl rfl (h_gr (a := 26) (k := 5) (m := 29) hS ly_26 rfl) rfl ?_
    refine gk_W_s 1 (pc1 := 48) (l1 := [some (.ref 27), some (.int x1), some (.int x2), none, none]) (st1 := [.int x2, .ref 29, .ref 37]) rfl ?_
    obtain ⟨hb2, h⟩ := h
    refine gk_W_h (i := .iaload) 49 rfl rfl (h_al (a := 28) (scr := none) hS ly_28 hb2) rfl ?_
    obtain ⟨hb3, h⟩ := h
    refine gk_W_h (i := .baload) 50 rfl rfl (h_al (a := 36) (scr := none) hS ly_36 hb3) rfl ?_
    refine gk_W_b 1 (((w_a w 36).getD ((w_a w 28).getD x2.toNatClampNeg 0).toNatClampNeg 0) = 0) (t := 56) (e := 53) (l1 := [some (.ref 27), some (.int x1), some (.int x2), none, none]) (st1 := []) rfl (fun hp4 => ?_) (fun hp4 => ?_)
    · have h := h.1 hp4
      refine gk_W_s 4 (pc1 := 61) (l1 := [some (.ref 27), some (.int x1), some (.int x2), some (.int 1), some (.int 0)]) (st1 := []) rfl ?_
      exact h
    · have h := h.2 hp4
      refine gk_W_s 3 (pc1 := 31) (l1 := [some (.ref 27), some (.int x1), some (.int (x2 + 1)), none, none]) (st1 := []) rfl ?_
      exact h
set_option maxRecDepth 8000 in
/-- GrammarDeskModel.findFruitful()V, at 61 -/
theorem sg_162_61 {d : Nat} {rr : List gk_S} {w w' : gk_Wd} {r : gk_Res} (hS : gk_Sh rr w) (x1 : Int32) (x2 : Int32) (x3 : Int32) (x4 : Int32)
    (h : (gk_out x2 64 = false ∧ ((((w_a w 29).getD x2.toNatClampNeg 0) ≤ x4 → (gk_out x2 64 = false ∧ (gk_out ((w_a w 28).getD x2.toNatClampNeg 0) 16 = false ∧ fits (gk_ty 2) (.int x3) = true ∧ ((¬ x1 = 0 → gk_W none (d + 1) 162 31 [some (.ref 27), some (.int 1), some (.int (x2 + 1)), none, none] [] (w_sa w 36 ((w_a w 36).set ((w_a w 28).getD x2.toNatClampNeg 0).toNatClampNeg x3)) r w') ∧ (x1 = 0 → ((x3 = 0 → gk_W none (d + 1) 162 31 [some (.ref 27), some (.int 0), some (.int (x2 + 1)), none, none] [] (w_sa w 36 ((w_a w 36).set ((w_a w 28).getD x2.toNatClampNeg 0).toNatClampNeg x3)) r w') ∧ (¬ (x3 = 0) → gk_W none (d + 1) 162 31 [some (.ref 27), some (.int 1), some (.int (x2 + 1)), none, none] [] (w_sa w 36 ((w_a w 36).set ((w_a w 28).getD x2.toNatClampNeg 0).toNatClampNeg x3)) r w'))))))) ∧ (¬ (((w_a w 29).getD x2.toNatClampNeg 0) ≤ x4) → ((x3 = 0 → gk_W none (d + 1) 162 61 [some (.ref 27), some (.int x1), some (.int x2), some (.int 0), some (.int (x4 + 1))] [] w r w') ∧ (¬ (x3 = 0) → ((gk_out ((10 * x2) + x4) 640 = false) ∧ (((f_163 (f_151 w x2 x4)) = 0 → gk_W none (d + 1) 162 61 [some (.ref 27), some (.int x1), some (.int x2), some (.int 1), some (.int (x4 + 1))] [] w r w') ∧ (¬ ((f_163 (f_151 w x2 x4)) = 0) → ((gk_out ((10 * x2) + x4) 640 = false) ∧ (gk_out (f_151 w x2 x4) 16 = false ∧ ((((w_a w 36).getD (f_151 w x2 x4).toNatClampNeg 0) = 0 → gk_W none (d + 1) 162 61 [some (.ref 27), some (.int x1), some (.int x2), some (.int 0), some (.int (x4 + 1))] [] w r w') ∧ (¬ (((w_a w 36).getD (f_151 w x2 x4).toNatClampNeg 0) = 0) → gk_W none (d + 1) 162 61 [some (.ref 27), some (.int x1), some (.int x2), some (.int 1), some (.int (x4 + 1))] [] w r w'))))))))))))) :
    gk_W none (d + 1) 162 61 [some (.ref 27), some (.int x1), some (.int x2), some (.int x3), some (.int x4)] [] w r w' := by
  refine gk_W_s 2 (pc1 := 64) (l1 := [some (.ref 27), some (.int x1), some (.int x2), some (.int x3), some (.int x4)]) (st1 := [.ref 27, .int x4]) rfl ?_
  refine gk_W_h (i := .getfield 21) 67 rfl rfl (h_gr (a := 26) (k := 6) (m := 30) hS ly_26 rfl) rfl ?_
  refine gk_W_s 1 (pc1 := 68) (l1 := [some (.ref 27), some (.int x1), some (.int x2), some (.int x3), some (.int x4)]) (st1 := [.int x2, .ref 30, .int x4]) rfl ?_
  obtain ⟨hb1, h⟩ := h
  refine gk_W_h (i := .iaload) 69 rfl rfl (h_al (a := 29) (scr := none) hS ly_29 hb1) rfl ?_
  refine gk_W_b 1 (((w_a w 29).getD x2.toNatClampNeg 0) ≤ x4) (t := 116) (e := 72) (l1 := [some (.ref 27), some (.int x1), some (.int x2), some (.int x3), some (.int x4)]) (st1 := []) rfl (fun hp2 => ?_) (fun hp2 => ?_)
  · have h := h.1 hp2
    refine gk_W_s 1 (pc1 := 117) (l1 := [some (.ref 27), some (.int x1), some (.int x2), some (.int x3), some (.int x4)]) (st1 := [.ref 27]) rfl ?_
    refine gk_W_h (i := .getfield 43) 120 rfl rfl (h_gr (a := 26) (k := 17) (m := 37) hS ly_26 rfl) rfl ?_
    refine gk_W_s 1 (pc1 := 121) (l1 := [some (.ref 27), some (.int x1), some (.int x2), some (.int x3), some (.int x4)]) (st1 := [.ref 27, .ref 37]) rfl ?_
    refine gk_W_h (i := .getfield 17) 124 rfl rfl (h_gr (a := 26) (k := 5) (m := 29) hS ly_26 rfl) rfl ?_
    refine gk_W_s 1 (pc1 := 125) (l1 := [some (.ref 27), some (.int x1), some (.int x2), some (.int x3), some (.int x4)]) (st1 := [.int x2, .ref 29, .ref 37]) rfl ?_
    obtain ⟨hb3, h⟩ := h
    refine gk_W_h (i := .iaload) 126 rfl rfl (h_al (a := 28) (scr := none) hS ly_28 hb3) rfl ?_
    refine gk_W_s 1 (pc1 := 127) (l1 := [some (.ref 27), some (.int x1), some (.int x2), some (.int x3), some (.int x4)]) (st1 := [.int x3, .int ((w_a w 28).getD x2.toNatClampNeg 0), .ref 37]) rfl ?_
    obtain ⟨hb4, hf5, h⟩ := h
    refine gk_W_h (i := .bastore) 128 rfl rfl (h_as (a := 36) (t := 2) hS ly_36 hb4 hf5) rfl ?_
    refine gk_W_b 2 (¬ x1 = 0) (t := 136) (e := 132) (l1 := [some (.ref 27), some (.int x1), some (.int x2), some (.int x3), some (.int x4)]) (st1 := []) rfl (fun hp6 => ?_) (fun hp6 => ?_)
    · have h := h.1 hp6
      refine gk_W_s 5 (pc1 := 31) (l1 := [some (.ref 27), some (.int 1), some (.int (x2 + 1)), some (.int x3), some (.int x4)]) (st1 := []) rfl ?_
      exact gk_W_le (gk_le_s (gk_le_s (gk_le_s (gk_le_n (gk_le_n (gk_le_0)))))) h
    · have h := h.2 (Decidable.not_not.mp hp6)
      refine gk_W_b 2 (x3 = 0) (t := 140) (e := 136) (l1 := [some (.ref 27), some (.int x1), some (.int x2), some (.int x3), some (.int x4)]) (st1 := []) rfl (fun hp7 => ?_) (fun hp7 => ?_)
      · have h := h.1 hp7
        refine gk_W_s 4 (pc1 := 31) (l1 := [some (.ref 27), some (.int 0), some (.int (x2 + 1)), some (.int x3), some (.int x4)]) (st1 := []) rfl ?_
        exact gk_W_le (gk_le_s (gk_le_s (gk_le_s (gk_le_n (gk_le_n (gk_le_0)))))) h
      · have h := h.2 hp7
        refine gk_W_s 5 (pc1 := 31) (l1 := [some (.ref 27), some (.int 1), some (.int (x2 + 1)), some (.int x3), some (.int x4)]) (st1 := []) rfl ?_
        exact gk_W_le (gk_le_s (gk_le_s (gk_le_s (gk_le_n (gk_le_n (gk_le_0)))))) h
  · have h := h.2 hp2
    refine gk_W_b 2 (x3 = 0) (t := 108) (e := 76) (l1 := [some (.ref 27), some (.int x1), some (.int x2), some (.int x3), some (.int x4)]) (st1 := []) rfl (fun hp8 => ?_) (fun hp8 => ?_)
    · have h := h.1 hp8
      refine gk_W_s 4 (pc1 := 61) (l1 := [some (.ref 27), some (.int x1), some (.int x2), some (.int 0), some (.int (x4 + 1))]) (st1 := []) rfl ?_
      exact h
    · have h := h.2 hp8
      refine gk_W_s 3 (pc1 := 80) (l1 := [some (.ref 27), some (.int x1), some (.int x2), some (.int x3), some (.int x4)]) (st1 := [.int x4, .int x2, .ref 27]) rfl ?_
      obtain ⟨hb9, h⟩ := h
      refine gk_W_c (i := .invokevirtual 103) [.int (f_151 w x2 x4)] 83 rfl rfl (c_v (a := 26) hS ly_26 rfl rfl (Nat.le_of_ble_eq_true rfl)) (f_151_E hS x2 x4 hb9) rfl rfl ?_
      refine gk_W_c (i := .invokestatic 166) [.int (f_163 (f_151 w x2 x4))] 86 rfl rfl rfl (f_163_E (f_151 w x2 x4)) rfl rfl ?_
      refine gk_W_b 1 ((f_163 (f_151 w x2 x4)) = 0) (t := 104) (e := 89) (l1 := [some (.ref 27), some (.int x1), some (.int x2), some (.int x3), some (.int x4)]) (st1 := []) rfl (fun hp10 => ?_) (fun hp10 => ?_)
      · have h := h.1 hp10
        refine gk_W_s 5 (pc1 := 61) (l1 := [some (.ref 27), some (.int x1), some (.int x2), some (.int 1), some (.int (x4 + 1))]) (st1 := []) rfl ?_
        exact h
      · have h := h.2 hp10
        refine gk_W_s 1 (pc1 := 90) (l1 := [some (.ref 27), some (.int x1), some (.int x2), some (.int x3), some (.int x4)]) (st1 := [.ref 27]) rfl ?_
        refine gk_W_h (i := .getfield 43) 93 rfl rfl (h_gr (a := 26) (k := 17) (m := 37) hS ly_26 rfl) rfl ?_
        refine gk_W_s 3 (pc1 := 97) (l1 := [some (.ref 27), some (.int x1), some (.int x2), some (.int x3), some (.int x4)]) (st1 := [.int x4, .int x2, .ref 27, .ref 37]) rfl ?_
        obtain ⟨hb11, h⟩ := h
        refine gk_W_c (i := .invokevirtual 103) [.int (f_151 w x2 x4), .ref 37] 100 rfl rfl (c_v (a := 26) hS ly_26 rfl rfl (Nat.le_of_ble_eq_true rfl)) (f_151_E hS x2 x4 hb11) rfl rfl ?_
        obtain ⟨hb12, h⟩ := h
        refine gk_W_h (i := .baload) 101 rfl rfl (h_al (a := 36) (scr := none) hS ly_36 hb12) rfl ?_
        refine gk_W_b 1 (((w_a w 36).getD (f_151 w x2 x4).toNatClampNeg 0) = 0) (t := 108) (e := 104) (l1 := [some (.ref 27), some (.int x1), some (.int x2), some (.int x3), some (.int x4)]) (st1 := []) rfl (fun hp13 => ?_) (fun hp13 => ?_)
        · have h := h.1 hp13
          refine gk_W_s 4 (pc1 := 61) (l1 := [some (.ref 27), some (.int x1), some (.int x2), some (.int 0), some (.int (x4 + 1))]) (st1 := []) rfl ?_
          exact h
        · have h := h.2 hp13
          refine gk_W_s 5 (pc1 := 61) (l1 := [some (.ref 27), some (.int x1), some (.int x2), some (.int 1), some (.int (x4 + 1))]) (st1 := []) rfl ?_
          exact h
set_option maxRecDepth 8000 in
/-- GrammarDeskModel.isBarren(I)Z, at 0 -/
theorem sg_164_0 {d : Nat} {rr : List gk_S} {w w' : gk_Wd} {r : gk_Res} (hS : gk_Sh rr w) (x1 : Int32)
    (h : (gk_out x1 64 = false ∧ (gk_out ((w_a w 28).getD x1.toNatClampNeg 0) 16 = false ∧ ((¬ ((w_a w 36).getD ((w_a w 28).getD x1.toNatClampNeg 0).toNatClampNeg 0) = 0 → gk_W none (d + 1) 164 22 [some (.ref 27), some (.int x1), some (.int 0), some (.int 0)] [] w r w') ∧ (((w_a w 36).getD ((w_a w 28).getD x1.toNatClampNeg 0).toNatClampNeg 0) = 0 → gk_W none (d + 1) 164 22 [some (.ref 27), some (.int x1), some (.int 1), some (.int 0)] [] w r w'))))) :
    gk_W none (d + 1) 164 0 [some (.ref 27), some (.int x1), none, none] [] w r w' := by
  refine gk_W_s 1 (pc1 := 1) (l1 := [some (.ref 27), some (.int x1), none, none]) (st1 := [.ref 27]) rfl ?_
  refine gk_W_h (i := .getfield 43) 4 rfl rfl (h_gr (a := 26) (k := 17) (m := 37) hS ly_26 rfl) rfl ?_
  refine gk_W_s 1 (pc1 := 5) (l1 := [some (.ref 27), some (.int x1), none, none]) (st1 := [.ref 27, .ref 37]) rfl ?_
  refine gk_W_h (i := .getfield 17) 8 rfl rfl (h_gr (a := 26) (k := 5) (m := 29) hS ly_26 rfl) rfl ?_
  refine gk_W_s 1 (pc1 := 9) (l1 := [some (.ref 27), some (.int x1), none, none]) (st1 := [.int x1, .ref 29, .ref 37]) rfl ?_
  obtain ⟨hb1, h⟩ := h
  refine gk_W_h (i := .iaload) 10 rfl rfl (h_al (a := 28) (scr := none) hS ly_28 hb1) rfl ?_
  obtain ⟨hb2, h⟩ := h
  refine gk_W_h (i := .baload) 11 rfl rfl (h_al (a := 36) (scr := none) hS ly_36 hb2) rfl ?_
  refine gk_W_b 1 (¬ ((w_a w 36).getD ((w_a w 28).getD x1.toNatClampNeg 0).toNatClampNeg 0) = 0) (t := 18) (e := 14) (l1 := [some (.ref 27), some (.int x1), none, none]) (st1 := []) rfl (fun hp3 => ?_) (fun hp3 => ?_)
  · have h := h.1 hp3
    refine gk_W_s 4 (pc1 := 22) (l1 := [some (.ref 27), some (.int x1), some (.int 0), some (.int 0)]) (st1 := []) rfl ?_
    exact h
  · have h := h.2 (Decidable.not_not.mp hp3)
    refine gk_W_s 5 (pc1 := 22) (l1 := [some (.ref 27), some (.int x1), some (.int 1), some (.int 0)]) (st1 := []) rfl ?_
    exact h
set_option maxRecDepth 8000 in
/-- GrammarDeskModel.isBarren(I)Z, at 22 -/
theorem sg_164_22 {d : Nat} {rr : List gk_S} {w w' : gk_Wd} {r : gk_Res} (hS : gk_Sh rr w) (x1 : Int32) (x2 : Int32) (x3 : Int32)
    (h : (gk_out x1 64 = false ∧ ((((w_a w 29).getD x1.toNatClampNeg 0) ≤ x3 → (fits .boolean (.int x2) = true ∧ r = .inl (some (.int x2)) ∧ w' = w)) ∧ (¬ (((w_a w 29).getD x1.toNatClampNeg 0) ≤ x3) → ((¬ x2 = 0 → gk_W none (d + 1) 164 22 [some (.ref 27), some (.int x1), some (.int 1), some (.int (x3 + 1))] [] w r w') ∧ (x2 = 0 → ((gk_out ((10 * x1) + x3) 640 = false) ∧ (((f_163 (f_151 w x1 x3)) = 0 → gk_W none (d + 1) 164 22 [some (.ref 27), some (.int x1), some (.int 0), some (.int (x3 + 1))] [] w r w') ∧ (¬ ((f_163 (f_151 w x1 x3)) = 0) → ((gk_out ((10 * x1) + x3) 640 = false) ∧ (gk_out (f_151 w x1 x3) 16 = false ∧ ((¬ ((w_a w 36).getD (f_151 w x1 x3).toNatClampNeg 0) = 0 → gk_W none (d + 1) 164 22 [some (.ref 27), some (.int x1), some (.int 0), some (.int (x3 + 1))] [] w r w') ∧ (((w_a w 36).getD (f_151 w x1 x3).toNatClampNeg 0) = 0 → gk_W none (d + 1) 164 22 [some (.ref 27), some (.int x1), some (.int 1), some (.int (x3 + 1))] [] w r w'))))))))))))) :
    gk_W none (d + 1) 164 22 [some (.ref 27), some (.int x1), some (.int x2), some (.int x3)] [] w r w' := by
  refine gk_W_s 2 (pc1 := 24) (l1 := [some (.ref 27), some (.int x1), some (.int x2), some (.int x3)]) (st1 := [.ref 27, .int x3]) rfl ?_
  refine gk_W_h (i := .getfield 21) 27 rfl rfl (h_gr (a := 26) (k := 6) (m := 30) hS ly_26 rfl) rfl ?_
  refine gk_W_s 1 (pc1 := 28) (l1 := [some (.ref 27), some (.int x1), some (.int x2), some (.int x3)]) (st1 := [.int x1, .ref 30, .int x3]) rfl ?_
  obtain ⟨hb1, h⟩ := h
  refine gk_W_h (i := .iaload) 29 rfl rfl (h_al (a := 29) (scr := none) hS ly_29 hb1) rfl ?_
  refine gk_W_b 1 (((w_a w 29).getD x1.toNatClampNeg 0) ≤ x3) (t := 74) (e := 32) (l1 := [some (.ref 27), some (.int x1), some (.int x2), some (.int x3)]) (st1 := []) rfl (fun hp2 => ?_) (fun hp2 => ?_)
  · have h := h.1 hp2
    refine gk_W_s 1 (pc1 := 75) (l1 := [some (.ref 27), some (.int x1), some (.int x2), some (.int x3)]) (st1 := [.int x2]) rfl ?_
    obtain ⟨hf, rfl, rfl⟩ := h
    exact gk_W_r (i := .ireturn) rfl rfl (gk_ret_f hf)
  · have h := h.2 hp2
    refine gk_W_b 2 (¬ x2 = 0) (t := 62) (e := 36) (l1 := [some (.ref 27), some (.int x1), some (.int x2), some (.int x3)]) (st1 := []) rfl (fun hp3 => ?_) (fun hp3 => ?_)
    · have h := h.1 hp3
      refine gk_W_s 5 (pc1 := 22) (l1 := [some (.ref 27), some (.int x1), some (.int 1), some (.int (x3 + 1))]) (st1 := []) rfl ?_
      exact h
    · have h := h.2 (Decidable.not_not.mp hp3)
      refine gk_W_s 3 (pc1 := 39) (l1 := [some (.ref 27), some (.int x1), some (.int x2), some (.int x3)]) (st1 := [.int x3, .int x1, .ref 27]) rfl ?_
      obtain ⟨hb4, h⟩ := h
      refine gk_W_c (i := .invokevirtual 103) [.int (f_151 w x1 x3)] 42 rfl rfl (c_v (a := 26) hS ly_26 rfl rfl (Nat.le_of_ble_eq_true rfl)) (f_151_E hS x1 x3 hb4) rfl rfl ?_
      refine gk_W_c (i := .invokestatic 166) [.int (f_163 (f_151 w x1 x3))] 45 rfl rfl rfl (f_163_E (f_151 w x1 x3)) rfl rfl ?_
      refine gk_W_b 1 ((f_163 (f_151 w x1 x3)) = 0) (t := 66) (e := 48) (l1 := [some (.ref 27), some (.int x1), some (.int x2), some (.int x3)]) (st1 := []) rfl (fun hp5 => ?_) (fun hp5 => ?_)
      · have h := h.1 hp5
        refine gk_W_s 4 (pc1 := 22) (l1 := [some (.ref 27), some (.int x1), some (.int 0), some (.int (x3 + 1))]) (st1 := []) rfl ?_
        exact h
      · have h := h.2 hp5
        refine gk_W_s 1 (pc1 := 49) (l1 := [some (.ref 27), some (.int x1), some (.int x2), some (.int x3)]) (st1 := [.ref 27]) rfl ?_
        refine gk_W_h (i := .getfield 43) 52 rfl rfl (h_gr (a := 26) (k := 17) (m := 37) hS ly_26 rfl) rfl ?_
        refine gk_W_s 3 (pc1 := 55) (l1 := [some (.ref 27), some (.int x1), some (.int x2), some (.int x3)]) (st1 := [.int x3, .int x1, .ref 27, .ref 37]) rfl ?_
        obtain ⟨hb6, h⟩ := h
        refine gk_W_c (i := .invokevirtual 103) [.int (f_151 w x1 x3), .ref 37] 58 rfl rfl (c_v (a := 26) hS ly_26 rfl rfl (Nat.le_of_ble_eq_true rfl)) (f_151_E hS x1 x3 hb6) rfl rfl ?_
        obtain ⟨hb7, h⟩ := h
        refine gk_W_h (i := .baload) 59 rfl rfl (h_al (a := 36) (scr := none) hS ly_36 hb7) rfl ?_
        refine gk_W_b 1 (¬ ((w_a w 36).getD (f_151 w x1 x3).toNatClampNeg 0) = 0) (t := 66) (e := 62) (l1 := [some (.ref 27), some (.int x1), some (.int x2), some (.int x3)]) (st1 := []) rfl (fun hp8 => ?_) (fun hp8 => ?_)
        · have h := h.1 hp8
          refine gk_W_s 4 (pc1 := 22) (l1 := [some (.ref 27), some (.int x1), some (.int 0), some (.int (x3 + 1))]) (st1 := []) rfl ?_
          exact h
        · have h := h.2 (Decidable.not_not.mp hp8)
          refine gk_W_s 5 (pc1 := 22) (l1 := [some (.ref 27), some (.int x1), some (.int 1), some (.int (x3 + 1))]) (st1 := []) rfl ?_
          exact h
set_option maxRecDepth 8000 in
/-- GrammarDeskModel.findReached()V, at 0 -/
theorem sg_165_0 {d : Nat} {rr : List gk_S} {w w' : gk_Wd} {r : gk_Res} (hS : gk_Sh rr w)
    (h : gk_W none (d + 1) 165 2 [some (.ref 27), some (.int 0), none, none] [] w r w') :
    gk_W none (d + 1) 165 0 [some (.ref 27), none, none, none] [] w r w' := by
  refine gk_W_s 2 (pc1 := 2) (l1 := [some (.ref 27), some (.int 0), none, none]) (st1 := []) rfl ?_
  exact h
set_option maxRecDepth 8000 in
/-- GrammarDeskModel.findReached()V, at 2 -/
theorem sg_165_2 {d : Nat} {rr : List gk_S} {w w' : gk_Wd} {r : gk_Res} (hS : gk_Sh rr w) (x1 : Int32)
    (h : ((16 ≤ x1 → gk_W none (d + 1) 165 31 [some (.ref 27), some (.int 1), none, none] [] w r w') ∧ (¬ (16 ≤ x1) → ((¬ x1 = 0 → (gk_out x1 16 = false ∧ gk_W none (d + 1) 165 2 [some (.ref 27), some (.int (x1 + 1)), none, none] [] (w_sa w 37 ((w_a w 37).set x1.toNatClampNeg 0)) r w')) ∧ (x1 = 0 → (gk_out x1 16 = false ∧ gk_W none (d + 1) 165 2 [some (.ref 27), some (.int (x1 + 1)), none, none] [] (w_sa w 37 ((w_a w 37).set x1.toNatClampNeg 1)) r w')))))) :
    gk_W none (d + 1) 165 2 [some (.ref 27), some (.int x1), none, none] [] w r w' := by
  refine gk_W_b 3 (16 ≤ x1) (t := 29) (e := 8) (l1 := [some (.ref 27), some (.int x1), none, none]) (st1 := []) rfl (fun hp1 => ?_) (fun hp1 => ?_)
  · have h := h.1 hp1
    refine gk_W_s 2 (pc1 := 31) (l1 := [some (.ref 27), some (.int 1), none, none]) (st1 := []) rfl ?_
    exact h
  · have h := h.2 hp1
    refine gk_W_s 1 (pc1 := 9) (l1 := [some (.ref 27), some (.int x1), none, none]) (st1 := [.ref 27]) rfl ?_
    refine gk_W_h (i := .getfield 46) 12 rfl rfl (h_gr (a := 26) (k := 18) (m := 38) hS ly_26 rfl) rfl ?_
    refine gk_W_b 3 (¬ x1 = 0) (t := 21) (e := 17) (l1 := [some (.ref 27), some (.int x1), none, none]) (st1 := [.int x1, .ref 38]) rfl (fun hp2 => ?_) (fun hp2 => ?_)
    · have h := h.1 hp2
      refine gk_W_s 1 (pc1 := 22) (l1 := [some (.ref 27), some (.int x1), none, none]) (st1 := [.int 0, .int x1, .ref 38]) rfl ?_
      obtain ⟨hb3, h⟩ := h
      refine gk_W_h (i := .bastore) 23 rfl rfl (h_as (a := 37) (t := 2) hS ly_37 hb3 rfl) rfl ?_
      refine gk_W_s 2 (pc1 := 2) (l1 := [some (.ref 27), some (.int (x1 + 1)), none, none]) (st1 := []) rfl ?_
      exact h
    · have h := h.2 (Decidable.not_not.mp hp2)
      refine gk_W_s 2 (pc1 := 22) (l1 := [some (.ref 27), some (.int x1), none, none]) (st1 := [.int 1, .int x1, .ref 38]) rfl ?_
      obtain ⟨hb4, h⟩ := h
      refine gk_W_h (i := .bastore) 23 rfl rfl (h_as (a := 37) (t := 2) hS ly_37 hb4 rfl) rfl ?_
      refine gk_W_s 2 (pc1 := 2) (l1 := [some (.ref 27), some (.int (x1 + 1)), none, none]) (st1 := []) rfl ?_
      exact h
set_option maxRecDepth 8000 in
/-- GrammarDeskModel.findReached()V, at 31 -/
theorem sg_165_31 {d : Nat} {rr : List gk_S} {w w' : gk_Wd} {r : gk_Res} (hS : gk_Sh rr w) (x1 : Int32)
    (h : ((x1 = 0 → (r = .inl none ∧ w' = w)) ∧ (¬ (x1 = 0) → gk_W none (d + 1) 165 39 [some (.ref 27), some (.int 0), some (.int 0), none] [] w r w'))) :
    gk_W none (d + 1) 165 31 [some (.ref 27), some (.int x1), none, none] [] w r w' := by
  refine gk_W_b 2 (x1 = 0) (t := 131) (e := 35) (l1 := [some (.ref 27), some (.int x1), none, none]) (st1 := []) rfl (fun hp1 => ?_) (fun hp1 => ?_)
  · have h := h.1 hp1
    obtain ⟨rfl, rfl⟩ := h
    exact gk_W_r (i := .return_) rfl rfl rfl
  · have h := h.2 hp1
    refine gk_W_s 4 (pc1 := 39) (l1 := [some (.ref 27), some (.int 0), some (.int 0), none]) (st1 := []) rfl ?_
    exact h
set_option maxRecDepth 8000 in
/-- GrammarDeskModel.findReached()V, at 39 -/
theorem sg_165_39 {d : Nat} {rr : List gk_S} {w w' : gk_Wd} {r : gk_Res} (hS : gk_Sh rr w) (x1 : Int32) (x2 : Int32)
    (h : (((w_i w 26 4) ≤ x2 → gk_W none (d + 1) 165 31 [some (.ref 27), some (.int x1), none, none] [] w r w') ∧ (¬ ((w_i w 26 4) ≤ x2) → gk_W none (d + 1) 165 49 [some (.ref 27), some (.int x1), some (.int x2), some (.int 0)] [] w r w'))) :
    gk_W none (d + 1) 165 39 [some (.ref 27), some (.int x1), some (.int x2), none] [] w r w' := by
  refine gk_W_s 2 (pc1 := 41) (l1 := [some (.ref 27), some (.int x1), some (.int x2), none]) (st1 := [.ref 27, .int x2]) rfl ?_
  refine gk_W_h (i := .getfield 111) 44 rfl rfl (h_gi (a := 26) (k := 4) hS ly_26 rfl) rfl ?_
  refine gk_W_b 1 ((w_i w 26 4) ≤ x2) (t := 128) (e := 47) (l1 := [some (.ref 27), some (.int x1), some (.int x2), none]) (st1 := []) rfl (fun hp1 => ?_) (fun hp1 => ?_)
  · have h := h.1 hp1
    refine gk_W_s 1 (pc1 := 31) (l1 := [some (.ref 27), some (.int x1), some (.int x2), none]) (st1 := []) rfl ?_
    exact gk_W_le (gk_le_s (gk_le_s (gk_le_n (gk_le_s (gk_le_0))))) h
  · have h := h.2 hp1
    refine gk_W_s 2 (pc1 := 49) (l1 := [some (.ref 27), some (.int x1), some (.int x2), some (.int 0)]) (st1 := []) rfl ?_
    exact h
set_option maxRecDepth 8000 in
/-- GrammarDeskModel.findReached()V, at 49 -/
theorem sg_165_49 {d : Nat} {rr : List gk_S} {w w' : gk_Wd} {r : gk_Res} (hS : gk_Sh rr w) (x1 : Int32) (x2 : Int32) (x3 : Int32)
    (h : (gk_out x2 64 = false ∧ ((((w_a w 29).getD x2.toNatClampNeg 0) ≤ x3 → gk_W none (d + 1) 165 39 [some (.ref 27), some (.int x1), some (.int (x2 + 1)), none] [] w r w') ∧ (¬ (((w_a w 29).getD x2.toNatClampNeg 0) ≤ x3) → (gk_out x2 64 = false ∧ (gk_out ((w_a w 28).getD x2.toNatClampNeg 0) 16 = false ∧ ((((w_a w 37).getD ((w_a w 28).getD x2.toNatClampNeg 0).toNatClampNeg 0) = 0 → gk_W none (d + 1) 165 39 [some (.ref 27), some (.int x1), some (.int (x2 + 1)), none] [] w r w') ∧ (¬ (((w_a w 37).getD ((w_a w 28).getD x2.toNatClampNeg 0).toNatClampNeg 0) = 0) → ((gk_out ((10 * x2) + x3) 640 = false) ∧ (((f_163 (f_151 w x2 x3)) = 0 → gk_W none (d + 1) 165 49 [some (.ref 27), some (.int x1), some (.int x2), some (.int (x3 + 1))] [] w r w') ∧ (¬ ((f_163 (f_151 w x2 x3)) = 0) → ((gk_out ((10 * x2) + x3) 640 = false) ∧ (gk_out (f_151 w x2 x3) 16 = false ∧ ((((w_a w 37).getD (f_151 w x2 x3).toNatClampNeg 0) = 0 → ((gk_out ((10 * x2) + x3) 640 = false) ∧ (gk_out (f_151 w x2 x3) 16 = false ∧ gk_W none (d + 1) 165 49 [some (.ref 27), some (.int 1), some (.int x2), some (.int (x3 + 1))] [] (w_sa w 37 ((w_a w 37).set (f_151 w x2 x3).toNatClampNeg 1)) r w'))) ∧ (¬ (((w_a w 37).getD (f_151 w x2 x3).toNatClampNeg 0) = 0) → gk_W none (d + 1) 165 49 [some (.ref 27), some (.int x1), some (.int x2), some (.int (x3 + 1))] [] w r w'))))))))))))))) :
    gk_W none (d + 1) 165 49 [some (.ref 27), some (.int x1), some (.int x2), some (.int x3)] [] w r w' := by
  refine gk_W_s 2 (pc1 := 51) (l1 := [some (.ref 27), some (.int x1), some (.int x2), some (.int x3)]) (st1 := [.ref 27, .int x3]) rfl ?_
  refine gk_W_h (i := .getfield 21) 54 rfl rfl (h_gr (a := 26) (k := 6) (m := 30) hS ly_26 rfl) rfl ?_
  refine gk_W_s 1 (pc1 := 55) (l1 := [some (.ref 27), some (.int x1), some (.int x2), some (.int x3)]) (st1 := [.int x2, .ref 30, .int x3]) rfl ?_
  obtain ⟨hb1, h⟩ := h
  refine gk_W_h (i := .iaload) 56 rfl rfl (h_al (a := 29) (scr := none) hS ly_29 hb1) rfl ?_
  refine gk_W_b 1 (((w_a w 29).getD x2.toNatClampNeg 0) ≤ x3) (t := 122) (e := 59) (l1 := [some (.ref 27), some (.int x1), some (.int x2), some (.int x3)]) (st1 := []) rfl (fun hp2 => ?_) (fun hp2 => ?_)
  · have h := h.1 hp2
    refine gk_W_s 2 (pc1 := 39) (l1 := [some (.ref 27), some (.int x1), some (.int (x2 + 1)), some (.int x3)]) (st1 := []) rfl ?_
    exact gk_W_le (gk_le_s (gk_le_s (gk_le_s (gk_le_n (gk_le_0))))) h
  · have h := h.2 hp2
    refine gk_W_s 1 (pc1 := 60) (l1 := [some (.ref 27), some (.int x1), some (.int x2), some (.int x3)]) (st1 := [.ref 27]) rfl ?_
    refine gk_W_h (i := .getfield 46) 63 rfl rfl (h_gr (a := 26) (k := 18) (m := 38) hS ly_26 rfl) rfl ?_
    refine gk_W_s 1 (pc1 := 64) (l1 := [some (.ref 27), some (.int x1), some (.int x2), some (.int x3)]) (st1 := [.ref 27, .ref 38]) rfl ?_
    refine gk_W_h (i := .getfield 17) 67 rfl rfl (h_gr (a := 26) (k := 5) (m := 29) hS ly_26 rfl) rfl ?_
    refine gk_W_s 1 (pc1 := 68) (l1 := [some (.ref 27), some (.int x1), some (.int x2), some (.int x3)]) (st1 := [.int x2, .ref 29, .ref 38]) rfl ?_
    obtain ⟨hb3, h⟩ := h
    refine gk_W_h (i := .iaload) 69 rfl rfl (h_al (a := 28) (scr := none) hS ly_28 hb3) rfl ?_
    obtain ⟨hb4, h⟩ := h
    refine gk_W_h (i := .baload) 70 rfl rfl (h_al (a := 37) (scr := none) hS ly_37 hb4) rfl ?_
    refine gk_W_b 1 (((w_a w 37).getD ((w_a w 28).getD x2.toNatClampNeg 0).toNatClampNeg 0) = 0) (t := 122) (e := 73) (l1 := [some (.ref 27), some (.int x1), some (.int x2), some (.int x3)]) (st1 := []) rfl (fun hp5 => ?_) (fun hp5 => ?_)
    · have h := h.1 hp5
      refine gk_W_s 2 (pc1 := 39) (l1 := [some (.ref 27), some (.int x1), some (.int (x2 + 1)), some (.int x3)]) (st1 := []) rfl ?_
      exact gk_W_le (gk_le_s (gk_le_s (gk_le_s (gk_le_n (gk_le_0))))) h
    · have h := h.2 hp5
      refine gk_W_s 3 (pc1 := 76) (l1 := [some (.ref 27), some (.int x1), some (.int x2), some (.int x3)]) (st1 := [.int x3, .int x2, .ref 27]) rfl ?_
      obtain ⟨hb6, h⟩ := h
      refine gk_W_c (i := .invokevirtual 103) [.int (f_151 w x2 x3)] 79 rfl rfl (c_v (a := 26) hS ly_26 rfl rfl (Nat.le_of_ble_eq_true rfl)) (f_151_E hS x2 x3 hb6) rfl rfl ?_
      refine gk_W_c (i := .invokestatic 166) [.int (f_163 (f_151 w x2 x3))] 82 rfl rfl rfl (f_163_E (f_151 w x2 x3)) rfl rfl ?_
      refine gk_W_b 1 ((f_163 (f_151 w x2 x3)) = 0) (t := 116) (e := 85) (l1 := [some (.ref 27), some (.int x1), some (.int x2), some (.int x3)]) (st1 := []) rfl (fun hp7 => ?_) (fun hp7 => ?_)
      · have h := h.1 hp7
        refine gk_W_s 2 (pc1 := 49) (l1 := [some (.ref 27), some (.int x1), some (.int x2), some (.int (x3 + 1))]) (st1 := []) rfl ?_
        exact h
      · have h := h.2 hp7
        refine gk_W_s 1 (pc1 := 86) (l1 := [some (.ref 27), some (.int x1), some (.int x2), some (.int x3)]) (st1 := [.ref 27]) rfl ?_
        refine gk_W_h (i := .getfield 46) 89 rfl rfl (h_gr (a := 26) (k := 18) (m := 38) hS ly_26 rfl) rfl ?_
        refine gk_W_s 3 (pc1 := 92) (l1 := [some (.ref 27), some (.int x1), some (.int x2), some (.int x3)]) (st1 := [.int x3, .int x2, .ref 27, .ref 38]) rfl ?_
        obtain ⟨hb8, h⟩ := h
        refine gk_W_c (i := .invokevirtual 103) [.int (f_151 w x2 x3), .ref 38] 95 rfl rfl (c_v (a := 26) hS ly_26 rfl rfl (Nat.le_of_ble_eq_true rfl)) (f_151_E hS x2 x3 hb8) rfl rfl ?_
        obtain ⟨hb9, h⟩ := h
        refine gk_W_h (i := .baload) 96 rfl rfl (h_al (a := 37) (scr := none) hS ly_37 hb9) rfl ?_
        refine gk_W_b 1 (((w_a w 37).getD (f_151 w x2 x3).toNatClampNeg 0) = 0) (t := 102) (e := 99) (l1 := [some (.ref 27), some (.int x1), some (.int x2), some (.int x3)]) (st1 := []) rfl (fun hp10 => ?_) (fun hp10 => ?_)
        · have h := h.1 hp10
          refine gk_W_s 1 (pc1 := 103) (l1 := [some (.ref 27), some (.int x1), some (.int x2), some (.int x3)]) (st1 := [.ref 27]) rfl ?_
          refine gk_W_h (i := .getfield 46) 106 rfl rfl (h_gr (a := 26) (k := 18) (m := 38) hS ly_26 rfl) rfl ?_
          refine gk_W_s 3 (pc1 := 109) (l1 := [some (.ref 27), some (.int x1), some (.int x2), some (.int x3)]) (st1 := [.int x3, .int x2, .ref 27, .ref 38]) rfl ?_
          obtain ⟨hb11, h⟩ := h
          refine gk_W_c (i := .invokevirtual 103) [.int (f_151 w x2 x3), .ref 38] 112 rfl rfl (c_v (a := 26) hS ly_26 rfl rfl (Nat.le_of_ble_eq_true rfl)) (f_151_E hS x2 x3 hb11) rfl rfl ?_
          refine gk_W_s 1 (pc1 := 113) (l1 := [some (.ref 27), some (.int x1), some (.int x2), some (.int x3)]) (st1 := [.int 1, .int (f_151 w x2 x3), .ref 38]) rfl ?_
          obtain ⟨hb12, h⟩ := h
          refine gk_W_h (i := .bastore) 114 rfl rfl (h_as (a := 37) (t := 2) hS ly_37 hb12 rfl) rfl ?_
          refine gk_W_s 4 (pc1 := 49) (l1 := [some (.ref 27), some (.int 1), some (.int x2), some (.int (x3 + 1))]) (st1 := []) rfl ?_
          exact h
        · have h := h.2 hp10
          refine gk_W_s 3 (pc1 := 49) (l1 := [some (.ref 27), some (.int x1), some (.int x2), some (.int (x3 + 1))]) (st1 := []) rfl ?_
          exact h
set_option maxRecDepth 8000 in
/-- GrammarDeskModel.solid()I, at 0 -/
theorem sg_166_0 {d : Nat} {rr : List gk_S} {w w' : gk_Wd} {r : gk_Res} (hS : gk_Sh rr w)
    (h : (∃ (w2 : gk_Wd), gk_E d 167 [.ref 27] (w_si w 26 0 0) (.inl none) w2 ∧ gk_Sh rr w2 ∧ (∃ (w5 : gk_Wd), gk_E d 168 [.ref 27] w2 (.inl none) w5 ∧ gk_Sh rr w5 ∧ (∃ (v8 : Int32), ∃ (w9 : gk_Wd), gk_E d 172 [.ref 27] w5 (.inl (some (.int v8))) w9 ∧ gk_Sh rr w9 ∧ (r = .inl (some (.int v8)) ∧ w' = w9))))) :
    gk_W none (d + 1) 166 0 [some (.ref 27)] [] w r w' := by
  refine gk_W_s 2 (pc1 := 2) (l1 := [some (.ref 27)]) (st1 := [.int 0, .ref 27]) rfl ?_
  refine gk_W_h (i := .putfield 97) 5 rfl rfl (h_pi (a := 26) (k := 0) (x := 0) hS ly_26 rfl rfl) rfl ?_
  refine gk_W_s 1 (pc1 := 6) (l1 := [some (.ref 27)]) (st1 := [.ref 27]) rfl ?_
  obtain ⟨w2, hE1, hS3, h⟩ := h
  refine gk_W_c (i := .invokevirtual 201) [] 9 rfl rfl (c_v (a := 26) (sh_si hS ly_26 (k := 0) rfl 0) ly_26 rfl rfl (Nat.le_of_ble_eq_true rfl)) hE1 rfl rfl ?_
  refine gk_W_s 1 (pc1 := 10) (l1 := [some (.ref 27)]) (st1 := [.ref 27]) rfl ?_
  obtain ⟨w5, hE4, hS6, h⟩ := h
  refine gk_W_c (i := .invokevirtual 204) [] 13 rfl rfl (c_v (a := 26) hS3 ly_26 rfl rfl (Nat.le_of_ble_eq_true rfl)) hE4 rfl rfl ?_
  refine gk_W_s 1 (pc1 := 14) (l1 := [some (.ref 27)]) (st1 := [.ref 27]) rfl ?_
  obtain ⟨v8, w9, hE7, hS10, h⟩ := h
  refine gk_W_c (i := .invokevirtual 207) [.int v8] 17 rfl rfl (c_v (a := 26) hS6 ly_26 rfl rfl (Nat.le_of_ble_eq_true rfl)) hE7 rfl rfl ?_
  obtain ⟨rfl, rfl⟩ := h
  exact gk_W_r (i := .ireturn) rfl rfl rfl
set_option maxRecDepth 8000 in
/-- GrammarDeskModel.keepAll()V, at 0 -/
theorem sg_167_0 {d : Nat} {rr : List gk_S} {w w' : gk_Wd} {r : gk_Res} (hS : gk_Sh rr w)
    (h : gk_W none d 167 10 [some (.ref 27), some (.int 0), none] [] (w_si w 26 32 (w_i w 26 4)) r w') :
    gk_W none d 167 0 [some (.ref 27), none, none] [] w r w' := by
  refine gk_W_s 2 (pc1 := 2) (l1 := [some (.ref 27), none, none]) (st1 := [.ref 27, .ref 27]) rfl ?_
  refine gk_W_h (i := .getfield 111) 5 rfl rfl (h_gi (a := 26) (k := 4) hS ly_26 rfl) rfl ?_
  refine gk_W_h (i := .putfield 192) 8 rfl rfl (h_pi (a := 26) (k := 32) (x := w_i w 26 4) hS ly_26 rfl rfl) rfl ?_
  refine gk_W_s 2 (pc1 := 10) (l1 := [some (.ref 27), some (.int 0), none]) (st1 := []) rfl ?_
  exact h
set_option maxRecDepth 8000 in
/-- GrammarDeskModel.keepAll()V, at 10 -/
theorem sg_167_10 {d : Nat} {rr : List gk_S} {w w' : gk_Wd} {r : gk_Res} (hS : gk_Sh rr w) (x1 : Int32)
    (h : (((w_i w 26 4) ≤ x1 → (r = .inl none ∧ w' = w_si (w_si w 26 14 0) 26 15 0)) ∧ (¬ ((w_i w 26 4) ≤ x1) → (gk_out x1 64 = false ∧ (gk_out x1 64 = false ∧ (gk_out x1 64 = false ∧ (gk_out x1 64 = false ∧ gk_W none d 167 44 [some (.ref 27), some (.int x1), some (.int 0)] [] (w_sa (w_sa w 48 ((w_a w 48).set x1.toNatClampNeg ((w_a w 28).getD x1.toNatClampNeg 0))) 49 ((w_a (w_sa w 48 ((w_a w 48).set x1.toNatClampNeg ((w_a w 28).getD x1.toNatClampNeg 0))) 49).set x1.toNatClampNeg ((w_a (w_sa w 48 ((w_a w 48).set x1.toNatClampNeg ((w_a w 28).getD x1.toNatClampNeg 0))) 29).getD x1.toNatClampNeg 0))) r w'))))))) :
    gk_W none d 167 10 [some (.ref 27), some (.int x1), none] [] w r w' := by
  refine gk_W_s 2 (pc1 := 12) (l1 := [some (.ref 27), some (.int x1), none]) (st1 := [.ref 27, .int x1]) rfl ?_
  refine gk_W_h (i := .getfield 111) 15 rfl rfl (h_gi (a := 26) (k := 4) hS ly_26 rfl) rfl ?_
  refine gk_W_b 1 ((w_i w 26 4) ≤ x1) (t := 84) (e := 18) (l1 := [some (.ref 27), some (.int x1), none]) (st1 := []) rfl (fun hp1 => ?_) (fun hp1 => ?_)
  · have h := h.1 hp1
    refine gk_W_s 2 (pc1 := 86) (l1 := [some (.ref 27), some (.int x1), none]) (st1 := [.int 0, .ref 27]) rfl ?_
    refine gk_W_h (i := .putfield 107) 89 rfl rfl (h_pi (a := 26) (k := 14) (x := 0) hS ly_26 rfl rfl) rfl ?_
    refine gk_W_s 2 (pc1 := 91) (l1 := [some (.ref 27), some (.int x1), none]) (st1 := [.int 0, .ref 27]) rfl ?_
    refine gk_W_h (i := .putfield 195) 94 rfl rfl (h_pi (a := 26) (k := 15) (x := 0) (sh_si hS ly_26 (k := 14) rfl 0) ly_26 rfl rfl) rfl ?_
    obtain ⟨rfl, rfl⟩ := h
    exact gk_W_r (i := .return_) rfl rfl rfl
  · have h := h.2 hp1
    refine gk_W_s 1 (pc1 := 19) (l1 := [some (.ref 27), some (.int x1), none]) (st1 := [.ref 27]) rfl ?_
    refine gk_W_h (i := .getfield 79) 22 rfl rfl (h_gr (a := 26) (k := 33) (m := 49) hS ly_26 rfl) rfl ?_
    refine gk_W_s 2 (pc1 := 24) (l1 := [some (.ref 27), some (.int x1), none]) (st1 := [.ref 27, .int x1, .ref 49]) rfl ?_
    refine gk_W_h (i := .getfield 17) 27 rfl rfl (h_gr (a := 26) (k := 5) (m := 29) hS ly_26 rfl) rfl ?_
    refine gk_W_s 1 (pc1 := 28) (l1 := [some (.ref 27), some (.int x1), none]) (st1 := [.int x1, .ref 29, .int x1, .ref 49]) rfl ?_
    obtain ⟨hb2, h⟩ := h
    refine gk_W_h (i := .iaload) 29 rfl rfl (h_al (a := 28) (scr := none) hS ly_28 hb2) rfl ?_
    obtain ⟨hb3, h⟩ := h
    refine gk_W_h (i := .iastore) 30 rfl rfl (h_as (a := 48) (t := 0) hS ly_48 hb3 rfl) rfl ?_
    refine gk_W_s 1 (pc1 := 31) (l1 := [some (.ref 27), some (.int x1), none]) (st1 := [.ref 27]) rfl ?_
    refine gk_W_h (i := .getfield 82) 34 rfl rfl (h_gr (a := 26) (k := 34) (m := 50) (sh_as hS ly_48 (x1.toNatClampNeg) ((w_a w 28).getD x1.toNatClampNeg 0)) ly_26 rfl) rfl ?_
    refine gk_W_s 2 (pc1 := 36) (l1 := [some (.ref 27), some (.int x1), none]) (st1 := [.ref 27, .int x1, .ref 50]) rfl ?_
    refine gk_W_h (i := .getfield 21) 39 rfl rfl (h_gr (a := 26) (k := 6) (m := 30) (sh_as hS ly_48 (x1.toNatClampNeg) ((w_a w 28).getD x1.toNatClampNeg 0)) ly_26 rfl) rfl ?_
    refine gk_W_s 1 (pc1 := 40) (l1 := [some (.ref 27), some (.int x1), none]) (st1 := [.int x1, .ref 30, .int x1, .ref 50]) rfl ?_
    obtain ⟨hb4, h⟩ := h
    refine gk_W_h (i := .iaload) 41 rfl rfl (h_al (a := 29) (scr := none) (sh_as hS ly_48 (x1.toNatClampNeg) ((w_a w 28).getD x1.toNatClampNeg 0)) ly_29 hb4) rfl ?_
    obtain ⟨hb5, h⟩ := h
    refine gk_W_h (i := .iastore) 42 rfl rfl (h_as (a := 49) (t := 0) (sh_as hS ly_48 (x1.toNatClampNeg) ((w_a w 28).getD x1.toNatClampNeg 0)) ly_49 hb5 rfl) rfl ?_
    refine gk_W_s 2 (pc1 := 44) (l1 := [some (.ref 27), some (.int x1), some (.int 0)]) (st1 := []) rfl ?_
    exact h
set_option maxRecDepth 8000 in
/-- GrammarDeskModel.keepAll()V, at 44 -/
theorem sg_167_44 {d : Nat} {rr : List gk_S} {w w' : gk_Wd} {r : gk_Res} (hS : gk_Sh rr w) (x1 : Int32) (x2 : Int32)
    (h : ((10 ≤ x2 → gk_W none d 167 10 [some (.ref 27), some (.int (x1 + 1)), none] [] w r w') ∧ (¬ (10 ≤ x2) → (gk_out ((10 * x1) + x2) 640 = false ∧ (gk_out ((10 * x1) + x2) 640 = false ∧ gk_W none d 167 44 [some (.ref 27), some (.int x1), some (.int (x2 + 1))] [] (w_sa w 50 ((w_a w 50).set ((10 * x1) + x2).toNatClampNeg ((w_a w 30).getD ((10 * x1) + x2).toNatClampNeg 0))) r w'))))) :
    gk_W none d 167 44 [some (.ref 27), some (.int x1), some (.int x2)] [] w r w' := by
  refine gk_W_b 3 (10 ≤ x2) (t := 78) (e := 50) (l1 := [some (.ref 27), some (.int x1), some (.int x2)]) (st1 := []) rfl (fun hp1 => ?_) (fun hp1 => ?_)
  · have h := h.1 hp1
    refine gk_W_s 2 (pc1 := 10) (l1 := [some (.ref 27), some (.int (x1 + 1)), some (.int x2)]) (st1 := []) rfl ?_
    exact gk_W_le (gk_le_s (gk_le_s (gk_le_n (gk_le_0)))) h
  · have h := h.2 hp1
    refine gk_W_s 1 (pc1 := 51) (l1 := [some (.ref 27), some (.int x1), some (.int x2)]) (st1 := [.ref 27]) rfl ?_
    refine gk_W_h (i := .getfield 85) 54 rfl rfl (h_gr (a := 26) (k := 35) (m := 51) hS ly_26 rfl) rfl ?_
    refine gk_W_s 6 (pc1 := 61) (l1 := [some (.ref 27), some (.int x1), some (.int x2)]) (st1 := [.ref 27, .int ((10 * x1) + x2), .ref 51]) rfl ?_
    refine gk_W_h (i := .getfield 24) 64 rfl rfl (h_gr (a := 26) (k := 7) (m := 31) hS ly_26 rfl) rfl ?_
    refine gk_W_s 5 (pc1 := 70) (l1 := [some (.ref 27), some (.int x1), some (.int x2)]) (st1 := [.int ((10 * x1) + x2), .ref 31, .int ((10 * x1) + x2), .ref 51]) rfl ?_
    obtain ⟨hb2, h⟩ := h
    refine gk_W_h (i := .iaload) 71 rfl rfl (h_al (a := 30) (scr := none) hS ly_30 hb2) rfl ?_
    obtain ⟨hb3, h⟩ := h
    refine gk_W_h (i := .iastore) 72 rfl rfl (h_as (a := 50) (t := 0) hS ly_50 hb3 rfl) rfl ?_
    refine gk_W_s 2 (pc1 := 44) (l1 := [some (.ref 27), some (.int x1), some (.int (x2 + 1))]) (st1 := []) rfl ?_
    exact h
