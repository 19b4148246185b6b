/-! printed by wip/whole/sym.py: from cut to cut: 168 cleanEmpty, 169 findNullable, 170 isNull, 171 leaveOut, 172 finish, 173 settled, 174 restore, 175 isAsBefore, 176 plain, 177 cleanUnits, 178 findLeads, 180 greibach, 181 makeForm, 182 findBefore, 183 replace, 184 unwind, 186 freeVariable, 187 nextToReplace, 188 name -/
set_option maxRecDepth 8000 in
/-- GrammarDeskModel.cleanEmpty()V, at 0 -/
theorem sg_168_0 {d : Nat} {rr : List gk_S} {w w' : gk_Wd} {r : gk_Res} (hS : gk_Sh rr w)
    (h : (∃ (w2 : gk_Wd), gk_E d 148 [.ref 27] w (.inl none) w2 ∧ gk_Sh rr w2 ∧ (∃ (w5 : gk_Wd), gk_E d 169 [.ref 27] w2 (.inl none) w5 ∧ gk_Sh rr w5 ∧ gk_W none (d + 1) 168 10 [some (.ref 27), some (.int 0), none] [] w5 r w'))) :
    gk_W none (d + 1) 168 0 [some (.ref 27), none, none] [] w r w' := by
  refine gk_W_s 1 (pc1 := 1) (l1 := [some (.ref 27), none, none]) (st1 := [.ref 27]) rfl ?_
  obtain ⟨w2, hE1, hS3, h⟩ := h
  refine gk_W_c (i := .invokevirtual 121) [] 4 rfl rfl (c_v (a := 26) hS ly_26 rfl rfl (Nat.le_of_ble_eq_true rfl)) hE1 rfl rfl ?_
  refine gk_W_s 1 (pc1 := 5) (l1 := [some (.ref 27), none, none]) (st1 := [.ref 27]) rfl ?_
  obtain ⟨w5, hE4, hS6, h⟩ := h
  refine gk_W_c (i := .invokevirtual 186) [] 8 rfl rfl (c_v (a := 26) hS3 ly_26 rfl rfl (Nat.le_of_ble_eq_true rfl)) hE4 rfl rfl ?_
  refine gk_W_s 2 (pc1 := 10) (l1 := [some (.ref 27), some (.int 0), none]) (st1 := []) rfl ?_
  exact h
set_option maxRecDepth 8000 in
/-- GrammarDeskModel.cleanEmpty()V, at 10 -/
theorem sg_168_10 {d : Nat} {rr : List gk_S} {w w' : gk_Wd} {r : gk_Res} (hS : gk_Sh rr w) (x1 : Int32)
    (h : (((w_i w 26 8) ≤ x1 → gk_W none (d + 1) 168 78 [some (.ref 27), some (.int ((w_i w 26 4) - 1)), none] [] w r w') ∧ (¬ ((w_i w 26 8) ≤ x1) → ((¬ (w_i w 26 14) = 0 → gk_W none (d + 1) 168 78 [some (.ref 27), some (.int ((w_i w 26 4) - 1)), none] [] w r w') ∧ ((w_i w 26 14) = 0 → gk_W none (d + 1) 168 27 [some (.ref 27), some (.int x1), some (.int 1)] [] w r w'))))) :
    gk_W none (d + 1) 168 10 [some (.ref 27), some (.int x1), none] [] w r w' := by
  refine gk_W_s 2 (pc1 := 12) (l1 := [some (.ref 27), some (.int x1), none]) (st1 := [.ref 27, .int x1]) rfl ?_
  refine gk_W_h (i := .getfield 124) 15 rfl rfl (h_gi (a := 26) (k := 8) hS ly_26 rfl) rfl ?_
  refine gk_W_b 1 ((w_i w 26 8) ≤ x1) (t := 71) (e := 18) (l1 := [some (.ref 27), some (.int x1), none]) (st1 := []) rfl (fun hp1 => ?_) (fun hp1 => ?_)
  · have h := h.1 hp1
    refine gk_W_s 1 (pc1 := 72) (l1 := [some (.ref 27), some (.int x1), none]) (st1 := [.ref 27]) rfl ?_
    refine gk_W_h (i := .getfield 111) 75 rfl rfl (h_gi (a := 26) (k := 4) hS ly_26 rfl) rfl ?_
    refine gk_W_s 3 (pc1 := 78) (l1 := [some (.ref 27), some (.int ((w_i w 26 4) - 1)), none]) (st1 := []) rfl ?_
    exact h
  · have h := h.2 hp1
    refine gk_W_s 1 (pc1 := 19) (l1 := [some (.ref 27), some (.int x1), none]) (st1 := [.ref 27]) rfl ?_
    refine gk_W_h (i := .getfield 107) 22 rfl rfl (h_gi (a := 26) (k := 14) hS ly_26 rfl) rfl ?_
    refine gk_W_b 1 (¬ (w_i w 26 14) = 0) (t := 71) (e := 25) (l1 := [some (.ref 27), some (.int x1), none]) (st1 := []) rfl (fun hp2 => ?_) (fun hp2 => ?_)
    · have h := h.1 hp2
      refine gk_W_s 1 (pc1 := 72) (l1 := [some (.ref 27), some (.int x1), none]) (st1 := [.ref 27]) rfl ?_
      refine gk_W_h (i := .getfield 111) 75 rfl rfl (h_gi (a := 26) (k := 4) hS ly_26 rfl) rfl ?_
      refine gk_W_s 3 (pc1 := 78) (l1 := [some (.ref 27), some (.int ((w_i w 26 4) - 1)), none]) (st1 := []) rfl ?_
      exact h
    · have h := h.2 (Decidable.not_not.mp hp2)
      refine gk_W_s 2 (pc1 := 27) (l1 := [some (.ref 27), some (.int x1), some (.int 1)]) (st1 := []) rfl ?_
      exact h
set_option maxRecDepth 8000 in
/-- GrammarDeskModel.cleanEmpty()V, at 27 -/
theorem sg_168_27 {d : Nat} {rr : List gk_S} {w w' : gk_Wd} {r : gk_Res} (hS : gk_Sh rr w) (x1 : Int32) (x2 : Int32)
    (h : (gk_out x1 64 = false ∧ (((1 <<< (((w_a w 32).getD x1.toNatClampNeg 0) &&& 31)) ≤ x2 → gk_W none (d + 1) 168 10 [some (.ref 27), some (.int (x1 + 1)), none] [] w r w') ∧ (¬ ((1 <<< (((w_a w 32).getD x1.toNatClampNeg 0) &&& 31)) ≤ x2) → (∃ (v4 : Int32), ∃ (w5 : gk_Wd), gk_E d 171 [.ref 27, .int x1, .int x2] w (.inl (some (.int v4))) w5 ∧ gk_Sh rr w5 ∧ ((v4 = 0 → gk_W none (d + 1) 168 27 [some (.ref 27), some (.int x1), some (.int (x2 + 1))] [] w5 r w') ∧ (¬ (v4 = 0) → (gk_out x1 64 = false ∧ (∃ (v10 : Int32), ∃ (w11 : gk_Wd), gk_E d 149 [.ref 27, .int ((w_a w5 31).getD x1.toNatClampNeg 0)] w5 (.inl (some (.int v10))) w11 ∧ gk_Sh rr w11 ∧ gk_W none (d + 1) 168 27 [some (.ref 27), some (.int x1), some (.int (x2 + 1))] [] w11 r w'))))))))) :
    gk_W none (d + 1) 168 27 [some (.ref 27), some (.int x1), some (.int x2)] [] w r w' := by
  refine gk_W_s 3 (pc1 := 30) (l1 := [some (.ref 27), some (.int x1), some (.int x2)]) (st1 := [.ref 27, .int 1, .int x2]) rfl ?_
  refine gk_W_h (i := .getfield 30) 33 rfl rfl (h_gr (a := 26) (k := 10) (m := 33) hS ly_26 rfl) rfl ?_
  refine gk_W_s 1 (pc1 := 34) (l1 := [some (.ref 27), some (.int x1), some (.int x2)]) (st1 := [.int x1, .ref 33, .int 1, .int x2]) rfl ?_
  obtain ⟨hb1, h⟩ := h
  refine gk_W_h (i := .iaload) 35 rfl rfl (h_al (a := 32) (scr := none) hS ly_32 hb1) rfl ?_
  refine gk_W_b 2 ((1 <<< (((w_a w 32).getD x1.toNatClampNeg 0) &&& 31)) ≤ x2) (t := 65) (e := 39) (l1 := [some (.ref 27), some (.int x1), some (.int x2)]) (st1 := []) rfl (fun hp2 => ?_) (fun hp2 => ?_)
  · have h := h.1 hp2
    refine gk_W_s 2 (pc1 := 10) (l1 := [some (.ref 27), some (.int (x1 + 1)), some (.int x2)]) (st1 := []) rfl ?_
    exact gk_W_le (gk_le_s (gk_le_s (gk_le_n (gk_le_0)))) h
  · have h := h.2 hp2
    refine gk_W_s 3 (pc1 := 42) (l1 := [some (.ref 27), some (.int x1), some (.int x2)]) (st1 := [.int x2, .int x1, .ref 27]) rfl ?_
    obtain ⟨v4, w5, hE3, hS6, h⟩ := h
    refine gk_W_c (i := .invokevirtual 189) [.int v4] 45 rfl rfl (c_v (a := 26) hS ly_26 rfl rfl (Nat.le_of_ble_eq_true rfl)) hE3 rfl rfl ?_
    refine gk_W_b 1 (v4 = 0) (t := 59) (e := 48) (l1 := [some (.ref 27), some (.int x1), some (.int x2)]) (st1 := []) rfl (fun hp7 => ?_) (fun hp7 => ?_)
    · have h := h.1 hp7
      refine gk_W_s 2 (pc1 := 27) (l1 := [some (.ref 27), some (.int x1), some (.int (x2 + 1))]) (st1 := []) rfl ?_
      exact h
    · have h := h.2 hp7
      refine gk_W_s 2 (pc1 := 50) (l1 := [some (.ref 27), some (.int x1), some (.int x2)]) (st1 := [.ref 27, .ref 27]) rfl ?_
      refine gk_W_h (i := .getfield 27) 53 rfl rfl (h_gr (a := 26) (k := 9) (m := 32) hS6 ly_26 rfl) rfl ?_
      refine gk_W_s 1 (pc1 := 54) (l1 := [some (.ref 27), some (.int x1), some (.int x2)]) (st1 := [.int x1, .ref 32, .ref 27]) rfl ?_
      obtain ⟨hb8, h⟩ := h
      refine gk_W_h (i := .iaload) 55 rfl rfl (h_al (a := 31) (scr := none) hS6 ly_31 hb8) rfl ?_
      obtain ⟨v10, w11, hE9, hS12, h⟩ := h
      refine gk_W_c (i := .invokevirtual 155) [.int v10] 58 rfl rfl (c_v (a := 26) hS6 ly_26 rfl rfl (Nat.le_of_ble_eq_true rfl)) hE9 rfl rfl ?_
      refine gk_W_s 3 (pc1 := 27) (l1 := [some (.ref 27), some (.int x1), some (.int (x2 + 1))]) (st1 := []) rfl ?_
      exact h
set_option maxRecDepth 8000 in
/-- GrammarDeskModel.cleanEmpty()V, at 78 -/
theorem sg_168_78 {d : Nat} {rr : List gk_S} {w w' : gk_Wd} {r : gk_Res} (hS : gk_Sh rr w) (x1 : Int32)
    (h : ((x1 < 0 → (r = .inl none ∧ w' = w)) ∧ (¬ (x1 < 0) → (gk_out x1 64 = false ∧ ((¬ ((w_a w 29).getD x1.toNatClampNeg 0) = 0 → gk_W none (d + 1) 168 78 [some (.ref 27), some (.int (x1 + (-1))), none] [] w r w') ∧ (((w_a w 29).getD x1.toNatClampNeg 0) = 0 → (∃ (w5 : gk_Wd), gk_E d 155 [.ref 27, .int x1] w (.inl none) w5 ∧ gk_Sh rr w5 ∧ gk_W none (d + 1) 168 78 [some (.ref 27), some (.int (x1 + (-1))), none] [] w5 r w'))))))) :
    gk_W none (d + 1) 168 78 [some (.ref 27), some (.int x1), none] [] w r w' := by
  refine gk_W_b 2 (x1 < 0) (t := 102) (e := 82) (l1 := [some (.ref 27), some (.int x1), none]) (st1 := []) rfl (fun hp1 => ?_) (fun hp1 => ?_)
  · have h := h.1 hp1
    obtain ⟨rfl, rfl⟩ := h
    exact gk_W_r (i := .return_) rfl rfl rfl
  · have h := h.2 hp1
    refine gk_W_s 1 (pc1 := 83) (l1 := [some (.ref 27), some (.int x1), none]) (st1 := [.ref 27]) rfl ?_
    refine gk_W_h (i := .getfield 21) 86 rfl rfl (h_gr (a := 26) (k := 6) (m := 30) hS ly_26 rfl) rfl ?_
    refine gk_W_s 1 (pc1 := 87) (l1 := [some (.ref 27), some (.int x1), none]) (st1 := [.int x1, .ref 30]) rfl ?_
    obtain ⟨hb2, h⟩ := h
    refine gk_W_h (i := .iaload) 88 rfl rfl (h_al (a := 29) (scr := none) hS ly_29 hb2) rfl ?_
    refine gk_W_b 1 (¬ ((w_a w 29).getD x1.toNatClampNeg 0) = 0) (t := 96) (e := 91) (l1 := [some (.ref 27), some (.int x1), none]) (st1 := []) rfl (fun hp3 => ?_) (fun hp3 => ?_)
    · have h := h.1 hp3
      refine gk_W_s 2 (pc1 := 78) (l1 := [some (.ref 27), some (.int (x1 + (-1))), none]) (st1 := []) rfl ?_
      exact h
    · have h := h.2 (Decidable.not_not.mp hp3)
      refine gk_W_s 2 (pc1 := 93) (l1 := [some (.ref 27), some (.int x1), none]) (st1 := [.int x1, .ref 27]) rfl ?_
      obtain ⟨w5, hE4, hS6, h⟩ := h
      refine gk_W_c (i := .invokevirtual 158) [] 96 rfl rfl (c_v (a := 26) hS ly_26 rfl rfl (Nat.le_of_ble_eq_true rfl)) hE4 rfl rfl ?_
      refine gk_W_s 2 (pc1 := 78) (l1 := [some (.ref 27), some (.int (x1 + (-1))), none]) (st1 := []) rfl ?_
      exact h
set_option maxRecDepth 8000 in
/-- GrammarDeskModel.findNullable()V, at 0 -/
theorem sg_169_0 {d : Nat} {rr : List gk_S} {w w' : gk_Wd} {r : gk_Res} (hS : gk_Sh rr w)
    (h : gk_W none (d + 1) 169 2 [some (.ref 27), some (.int 0), none] [] w r w') :
    gk_W none (d + 1) 169 0 [some (.ref 27), none, none] [] w r w' := by
  refine gk_W_s 2 (pc1 := 2) (l1 := [some (.ref 27), some (.int 0), none]) (st1 := []) rfl ?_
  exact h
set_option maxRecDepth 8000 in
/-- GrammarDeskModel.findNullable()V, at 2 -/
theorem sg_169_2 {d : Nat} {rr : List gk_S} {w w' : gk_Wd} {r : gk_Res} (hS : gk_Sh rr w) (x1 : Int32)
    (h : ((16 ≤ x1 → gk_W none (d + 1) 169 23 [some (.ref 27), some (.int 1), none] [] w r w') ∧ (¬ (16 ≤ x1) → (gk_out x1 16 = false ∧ gk_W none (d + 1) 169 2 [some (.ref 27), some (.int (x1 + 1)), none] [] (w_sa w 38 ((w_a w 38).set x1.toNatClampNeg 0)) r w')))) :
    gk_W none (d + 1) 169 2 [some (.ref 27), some (.int x1), none] [] w r w' := by
  refine gk_W_b 3 (16 ≤ x1) (t := 21) (e := 8) (l1 := [some (.ref 27), some (.int x1), none]) (st1 := []) rfl (fun hp1 => ?_) (fun hp1 => ?_)
  · have h := h.1 hp1
    refine gk_W_s 2 (pc1 := 23) (l1 := [some (.ref 27), some (.int 1), none]) (st1 := []) rfl ?_
    exact h
  · have h := h.2 hp1
    refine gk_W_s 1 (pc1 := 9) (l1 := [some (.ref 27), some (.int x1), none]) (st1 := [.ref 27]) rfl ?_
    refine gk_W_h (i := .getfield 49) 12 rfl rfl (h_gr (a := 26) (k := 19) (m := 39) hS ly_26 rfl) rfl ?_
    refine gk_W_s 2 (pc1 := 14) (l1 := [some (.ref 27), some (.int x1), none]) (st1 := [.int 0, .int x1, .ref 39]) rfl ?_
    obtain ⟨hb2, h⟩ := h
    refine gk_W_h (i := .bastore) 15 rfl rfl (h_as (a := 38) (t := 2) hS ly_38 hb2 rfl) rfl ?_
    refine gk_W_s 2 (pc1 := 2) (l1 := [some (.ref 27), some (.int (x1 + 1)), none]) (st1 := []) rfl ?_
    exact h
set_option maxRecDepth 8000 in
/-- GrammarDeskModel.findNullable()V, at 23 -/
theorem sg_169_23 {d : Nat} {rr : List gk_S} {w w' : gk_Wd} {r : gk_Res} (hS : gk_Sh rr w) (x1 : Int32)
    (h : ((x1 = 0 → (r = .inl none ∧ w' = w)) ∧ (¬ (x1 = 0) → gk_W none (d + 1) 169 31 [some (.ref 27), some (.int 0), some (.int 0)] [] w r w'))) :
    gk_W none (d + 1) 169 23 [some (.ref 27), some (.int x1), none] [] w r w' := by
  refine gk_W_b 2 (x1 = 0) (t := 88) (e := 27) (l1 := [some (.ref 27), some (.int x1), none]) (st1 := []) rfl (fun hp1 => ?_) (fun hp1 => ?_)
  · have h := h.1 hp1
    obtain ⟨rfl, rfl⟩ := h
    exact gk_W_r (i := .return_) rfl rfl rfl
  · have h := h.2 hp1
    refine gk_W_s 4 (pc1 := 31) (l1 := [some (.ref 27), some (.int 0), some (.int 0)]) (st1 := []) rfl ?_
    exact h
set_option maxRecDepth 8000 in
/-- GrammarDeskModel.findNullable()V, at 31 -/
theorem sg_169_31 {d : Nat} {rr : List gk_S} {w w' : gk_Wd} {r : gk_Res} (hS : gk_Sh rr w) (x1 : Int32) (x2 : Int32)
    (h : (((w_i w 26 4) ≤ x2 → gk_W none (d + 1) 169 23 [some (.ref 27), some (.int x1), none] [] w r w') ∧ (¬ ((w_i w 26 4) ≤ x2) → (gk_out x2 64 = false ∧ (gk_out ((w_a w 28).getD x2.toNatClampNeg 0) 16 = false ∧ ((¬ ((w_a w 38).getD ((w_a w 28).getD x2.toNatClampNeg 0).toNatClampNeg 0) = 0 → gk_W none (d + 1) 169 31 [some (.ref 27), some (.int x1), some (.int (x2 + 1))] [] w r w') ∧ (((w_a w 38).getD ((w_a w 28).getD x2.toNatClampNeg 0).toNatClampNeg 0) = 0 → (∃ (v6 : Int32), gk_E d 170 [.ref 27, .int x2, .int 0] w (.inl (some (.int v6))) w ∧ ((¬ v6 = 0 → (gk_out x2 64 = false ∧ (gk_out ((w_a w 28).getD x2.toNatClampNeg 0) 16 = false ∧ gk_W none (d + 1) 169 31 [some (.ref 27), some (.int 1), some (.int (x2 + 1))] [] (w_sa w 38 ((w_a w 38).set ((w_a w 28).getD x2.toNatClampNeg 0).toNatClampNeg 1)) r w'))) ∧ (v6 = 0 → gk_W none (d + 1) 169 31 [some (.ref 27), some (.int x1), some (.int (x2 + 1))] [] w r w')))))))))) :
    gk_W none (d + 1) 169 31 [some (.ref 27), some (.int x1), some (.int x2)] [] w r w' := by
  refine gk_W_s 2 (pc1 := 33) (l1 := [some (.ref 27), some (.int x1), some (.int x2)]) (st1 := [.ref 27, .int x2]) rfl ?_
  refine gk_W_h (i := .getfield 111) 36 rfl rfl (h_gi (a := 26) (k := 4) hS ly_26 rfl) rfl ?_
  refine gk_W_b 1 ((w_i w 26 4) ≤ x2) (t := 85) (e := 39) (l1 := [some (.ref 27), some (.int x1), some (.int x2)]) (st1 := []) rfl (fun hp1 => ?_) (fun hp1 => ?_)
  · have h := h.1 hp1
    refine gk_W_s 1 (pc1 := 23) (l1 := [some (.ref 27), some (.int x1), some (.int x2)]) (st1 := []) rfl ?_
    exact gk_W_le (gk_le_s (gk_le_s (gk_le_n (gk_le_0)))) h
  · have h := h.2 hp1
    refine gk_W_s 1 (pc1 := 40) (l1 := [some (.ref 27), some (.int x1), some (.int x2)]) (st1 := [.ref 27]) rfl ?_
    refine gk_W_h (i := .getfield 49) 43 rfl rfl (h_gr (a := 26) (k := 19) (m := 39) hS ly_26 rfl) rfl ?_
    refine gk_W_s 1 (pc1 := 44) (l1 := [some (.ref 27), some (.int x1), some (.int x2)]) (st1 := [.ref 27, .ref 39]) rfl ?_
    refine gk_W_h (i := .getfield 17) 47 rfl rfl (h_gr (a := 26) (k := 5) (m := 29) hS ly_26 rfl) rfl ?_
    refine gk_W_s 1 (pc1 := 48) (l1 := [some (.ref 27), some (.int x1), some (.int x2)]) (st1 := [.int x2, .ref 29, .ref 39]) rfl ?_
    obtain ⟨hb2, h⟩ := h
    refine gk_W_h (i := .iaload) 49 rfl rfl (h_al (a := 28) (scr := none) hS ly_28 hb2) rfl ?_
    obtain ⟨hb3, h⟩ := h
    refine gk_W_h (i := .baload) 50 rfl rfl (h_al (a := 38) (scr := none) hS ly_38 hb3) rfl ?_
    refine gk_W_b 1 (¬ ((w_a w 38).getD ((w_a w 28).getD x2.toNatClampNeg 0).toNatClampNeg 0) = 0) (t := 79) (e := 53) (l1 := [some (.ref 27), some (.int x1), some (.int x2)]) (st1 := []) rfl (fun hp4 => ?_) (fun hp4 => ?_)
    · have h := h.1 hp4
      refine gk_W_s 2 (pc1 := 31) (l1 := [some (.ref 27), some (.int x1), some (.int (x2 + 1))]) (st1 := []) rfl ?_
      exact h
    · have h := h.2 (Decidable.not_not.mp hp4)
      refine gk_W_s 3 (pc1 := 56) (l1 := [some (.ref 27), some (.int x1), some (.int x2)]) (st1 := [.int 0, .int x2, .ref 27]) rfl ?_
      obtain ⟨v6, hE5, h⟩ := h
      refine gk_W_c (i := .invokevirtual 170) [.int v6] 59 rfl rfl (c_v (a := 26) hS ly_26 rfl rfl (Nat.le_of_ble_eq_true rfl)) hE5 rfl rfl ?_
      refine gk_W_b 1 (¬ v6 = 0) (t := 65) (e := 62) (l1 := [some (.ref 27), some (.int x1), some (.int x2)]) (st1 := []) rfl (fun hp7 => ?_) (fun hp7 => ?_)
      · have h := h.1 hp7
        refine gk_W_s 1 (pc1 := 66) (l1 := [some (.ref 27), some (.int x1), some (.int x2)]) (st1 := [.ref 27]) rfl ?_
        refine gk_W_h (i := .getfield 49) 69 rfl rfl (h_gr (a := 26) (k := 19) (m := 39) hS ly_26 rfl) rfl ?_
        refine gk_W_s 1 (pc1 := 70) (l1 := [some (.ref 27), some (.int x1), some (.int x2)]) (st1 := [.ref 27, .ref 39]) rfl ?_
        refine gk_W_h (i := .getfield 17) 73 rfl rfl (h_gr (a := 26) (k := 5) (m := 29) hS ly_26 rfl) rfl ?_
        refine gk_W_s 1 (pc1 := 74) (l1 := [some (.ref 27), some (.int x1), some (.int x2)]) (st1 := [.int x2, .ref 29, .ref 39]) rfl ?_
        obtain ⟨hb8, h⟩ := h
        refine gk_W_h (i := .iaload) 75 rfl rfl (h_al (a := 28) (scr := none) hS ly_28 hb8) rfl ?_
        refine gk_W_s 1 (pc1 := 76) (l1 := [some (.ref 27), some (.int x1), some (.int x2)]) (st1 := [.int 1, .int ((w_a w 28).getD x2.toNatClampNeg 0), .ref 39]) rfl ?_
        obtain ⟨hb9, h⟩ := h
        refine gk_W_h (i := .bastore) 77 rfl rfl (h_as (a := 38) (t := 2) hS ly_38 hb9 rfl) rfl ?_
        refine gk_W_s 4 (pc1 := 31) (l1 := [some (.ref 27), some (.int 1), some (.int (x2 + 1))]) (st1 := []) rfl ?_
        exact h
      · have h := h.2 (Decidable.not_not.mp hp7)
        refine gk_W_s 3 (pc1 := 31) (l1 := [some (.ref 27), some (.int x1), some (.int (x2 + 1))]) (st1 := []) rfl ?_
        exact h
set_option maxRecDepth 8000 in
/-- GrammarDeskModel.isNull(II)Z, at 0 -/
theorem sg_170_0 {d : Nat} {rr : List gk_S} {w w' : gk_Wd} {r : gk_Res} (hS : gk_Sh rr w) (x1 : Int32) (x2 : Int32)
    (h : gk_W none (d + 1) 170 5 [some (.ref 27), some (.int x1), none, some (.int 1), some (.int x2)] [] w r w') :
    gk_W none (d + 1) 170 0 [some (.ref 27), some (.int x1), some (.int x2), none, none] [] w r w' := by
  refine gk_W_s 4 (pc1 := 5) (l1 := [some (.ref 27), some (.int x1), some (.int x2), some (.int 1), some (.int x2)]) (st1 := []) rfl ?_
  exact gk_W_le (gk_le_s (gk_le_s (gk_le_n (gk_le_s (gk_le_s (gk_le_0)))))) h
set_option maxRecDepth 8000 in
/-- GrammarDeskModel.isNull(II)Z, at 5 -/
theorem sg_170_5 {d : Nat} {rr : List gk_S} {w w' : gk_Wd} {r : gk_Res} (hS : gk_Sh rr w) (x1 : Int32) (x3 : Int32) (x4 : Int32)
    (h : (gk_out x1 64 = false ∧ ((((w_a w 29).getD x1.toNatClampNeg 0) ≤ x4 → (fits .boolean (.int x3) = true ∧ r = .inl (some (.int x3)) ∧ w' = w)) ∧ (¬ (((w_a w 29).getD x1.toNatClampNeg 0) ≤ x4) → ((x3 = 0 → gk_W none (d + 1) 170 5 [some (.ref 27), some (.int x1), none, some (.int 0), some (.int (x4 + 1))] [] w r w') ∧ (¬ (x3 = 0) → ((gk_out ((10 * x1) + x4) 640 = false) ∧ (((f_163 (f_151 w x1 x4)) = 0 → gk_W none (d + 1) 170 5 [some (.ref 27), some (.int x1), none, some (.int 0), some (.int (x4 + 1))] [] w r w') ∧ (¬ ((f_163 (f_151 w x1 x4)) = 0) → ((gk_out ((10 * x1) + x4) 640 = false) ∧ (gk_out (f_151 w x1 x4) 16 = false ∧ ((((w_a w 38).getD (f_151 w x1 x4).toNatClampNeg 0) = 0 → gk_W none (d + 1) 170 5 [some (.ref 27), some (.int x1), none, some (.int 0), some (.int (x4 + 1))] [] w r w') ∧ (¬ (((w_a w 38).getD (f_151 w x1 x4).toNatClampNeg 0) = 0) → gk_W none (d + 1) 170 5 [some (.ref 27), some (.int x1), none, some (.int 1), some (.int (x4 + 1))] [] w r w'))))))))))))) :
    gk_W none (d + 1) 170 5 [some (.ref 27), some (.int x1), none, some (.int x3), some (.int x4)] [] w r w' := by
  refine gk_W_s 2 (pc1 := 8) (l1 := [some (.ref 27), some (.int x1), none, some (.int x3), some (.int x4)]) (st1 := [.ref 27, .int x4]) rfl ?_
  refine gk_W_h (i := .getfield 21) 11 rfl rfl (h_gr (a := 26) (k := 6) (m := 30) hS ly_26 rfl) rfl ?_
  refine gk_W_s 1 (pc1 := 12) (l1 := [some (.ref 27), some (.int x1), none, some (.int x3), some (.int x4)]) (st1 := [.int x1, .ref 30, .int x4]) rfl ?_
  obtain ⟨hb1, h⟩ := h
  refine gk_W_h (i := .iaload) 13 rfl rfl (h_al (a := 29) (scr := none) hS ly_29 hb1) rfl ?_
  refine gk_W_b 1 (((w_a w 29).getD x1.toNatClampNeg 0) ≤ x4) (t := 60) (e := 16) (l1 := [some (.ref 27), some (.int x1), none, some (.int x3), some (.int x4)]) (st1 := []) rfl (fun hp2 => ?_) (fun hp2 => ?_)
  · have h := h.1 hp2
    refine gk_W_s 1 (pc1 := 61) (l1 := [some (.ref 27), some (.int x1), none, some (.int x3), some (.int x4)]) (st1 := [.int x3]) rfl ?_
    obtain ⟨hf, rfl, rfl⟩ := h
    exact gk_W_r (i := .ireturn) rfl rfl (gk_ret_f hf)
  · have h := h.2 hp2
    refine gk_W_b 2 (x3 = 0) (t := 52) (e := 20) (l1 := [some (.ref 27), some (.int x1), none, some (.int x3), some (.int x4)]) (st1 := []) rfl (fun hp3 => ?_) (fun hp3 => ?_)
    · have h := h.1 hp3
      refine gk_W_s 4 (pc1 := 5) (l1 := [some (.ref 27), some (.int x1), none, some (.int 0), some (.int (x4 + 1))]) (st1 := []) rfl ?_
      exact h
    · have h := h.2 hp3
      refine gk_W_s 3 (pc1 := 24) (l1 := [some (.ref 27), some (.int x1), none, some (.int x3), some (.int x4)]) (st1 := [.int x4, .int x1, .ref 27]) rfl ?_
      obtain ⟨hb4, h⟩ := h
      refine gk_W_c (i := .invokevirtual 103) [.int (f_151 w x1 x4)] 27 rfl rfl (c_v (a := 26) hS ly_26 rfl rfl (Nat.le_of_ble_eq_true rfl)) (f_151_E hS x1 x4 hb4) rfl rfl ?_
      refine gk_W_c (i := .invokestatic 166) [.int (f_163 (f_151 w x1 x4))] 30 rfl rfl rfl (f_163_E (f_151 w x1 x4)) rfl rfl ?_
      refine gk_W_b 1 ((f_163 (f_151 w x1 x4)) = 0) (t := 52) (e := 33) (l1 := [some (.ref 27), some (.int x1), none, some (.int x3), some (.int x4)]) (st1 := []) rfl (fun hp5 => ?_) (fun hp5 => ?_)
      · have h := h.1 hp5
        refine gk_W_s 4 (pc1 := 5) (l1 := [some (.ref 27), some (.int x1), none, some (.int 0), some (.int (x4 + 1))]) (st1 := []) rfl ?_
        exact h
      · have h := h.2 hp5
        refine gk_W_s 1 (pc1 := 34) (l1 := [some (.ref 27), some (.int x1), none, some (.int x3), some (.int x4)]) (st1 := [.ref 27]) rfl ?_
        refine gk_W_h (i := .getfield 49) 37 rfl rfl (h_gr (a := 26) (k := 19) (m := 39) hS ly_26 rfl) rfl ?_
        refine gk_W_s 3 (pc1 := 41) (l1 := [some (.ref 27), some (.int x1), none, some (.int x3), some (.int x4)]) (st1 := [.int x4, .int x1, .ref 27, .ref 39]) rfl ?_
        obtain ⟨hb6, h⟩ := h
        refine gk_W_c (i := .invokevirtual 103) [.int (f_151 w x1 x4), .ref 39] 44 rfl rfl (c_v (a := 26) hS ly_26 rfl rfl (Nat.le_of_ble_eq_true rfl)) (f_151_E hS x1 x4 hb6) rfl rfl ?_
        obtain ⟨hb7, h⟩ := h
        refine gk_W_h (i := .baload) 45 rfl rfl (h_al (a := 38) (scr := none) hS ly_38 hb7) rfl ?_
        refine gk_W_b 1 (((w_a w 38).getD (f_151 w x1 x4).toNatClampNeg 0) = 0) (t := 52) (e := 48) (l1 := [some (.ref 27), some (.int x1), none, some (.int x3), some (.int x4)]) (st1 := []) rfl (fun hp8 => ?_) (fun hp8 => ?_)
        · have h := h.1 hp8
          refine gk_W_s 4 (pc1 := 5) (l1 := [some (.ref 27), some (.int x1), none, some (.int 0), some (.int (x4 + 1))]) (st1 := []) rfl ?_
          exact h
        · have h := h.2 hp8
          refine gk_W_s 5 (pc1 := 5) (l1 := [some (.ref 27), some (.int x1), none, some (.int 1), some (.int (x4 + 1))]) (st1 := []) rfl ?_
          exact h
set_option maxRecDepth 8000 in
/-- GrammarDeskModel.leaveOut(II)Z, at 0 -/
theorem sg_171_0 {d : Nat} {rr : List gk_S} {w w' : gk_Wd} {r : gk_Res} (hS : gk_Sh rr w) (x1 : Int32) (x2 : Int32)
    (h : gk_W none (d + 1) 171 7 [some (.ref 27), some (.int x1), some (.int x2), some (.int 0), none, none, none] [] (w_si w 26 12 0) r w') :
    gk_W none (d + 1) 171 0 [some (.ref 27), some (.int x1), some (.int x2), none, none, none, none] [] w r w' := by
  refine gk_W_s 2 (pc1 := 2) (l1 := [some (.ref 27), some (.int x1), some (.int x2), none, none, none, none]) (st1 := [.int 0, .ref 27]) rfl ?_
  refine gk_W_h (i := .putfield 100) 5 rfl rfl (h_pi (a := 26) (k := 12) (x := 0) hS ly_26 rfl rfl) rfl ?_
  refine gk_W_s 2 (pc1 := 7) (l1 := [some (.ref 27), some (.int x1), some (.int x2), some (.int 0), none, none, none]) (st1 := []) rfl ?_
  exact h
set_option maxRecDepth 8000 in
/-- GrammarDeskModel.leaveOut(II)Z, at 7 -/
theorem sg_171_7 {d : Nat} {rr : List gk_S} {w w' : gk_Wd} {r : gk_Res} (hS : gk_Sh rr w) (x1 : Int32) (x2 : Int32) (x3 : Int32)
    (h : (gk_out x1 64 = false ∧ ((((w_a w 32).getD x1.toNatClampNeg 0) ≤ x3 → (r = .inl (some (.int 1)) ∧ w' = w)) ∧ (¬ (((w_a w 32).getD x1.toNatClampNeg 0) ≤ x3) → (gk_out ((10 * x1) + x3) 640 = false ∧ (((f_163 ((w_a w 33).getD ((10 * x1) + x3).toNatClampNeg 0)) = 0 → ((¬ ((x2 >>> (x3 &&& 31)) &&& 1) = 1 → (gk_out (w_i w 26 12) 24 = false ∧ gk_W none (d + 1) 171 7 [some (.ref 27), some (.int x1), some (.int x2), some (.int (x3 + 1)), none, none, none] [] (w_si (w_sa w 34 ((w_a w 34).set (w_i w 26 12).toNatClampNeg ((w_a w 33).getD ((10 * x1) + x3).toNatClampNeg 0))) 26 12 ((w_i (w_sa w 34 ((w_a w 34).set (w_i w 26 12).toNatClampNeg ((w_a w 33).getD ((10 * x1) + x3).toNatClampNeg 0))) 26 12) + 1)) r w')) ∧ (((x2 >>> (x3 &&& 31)) &&& 1) = 1 → (r = .inl (some (.int 0)) ∧ w' = w)))) ∧ (¬ ((f_163 ((w_a w 33).getD ((10 * x1) + x3).toNatClampNeg 0)) = 0) → (gk_out ((w_a w 33).getD ((10 * x1) + x3).toNatClampNeg 0) 16 = false ∧ ((((w_a w 38).getD ((w_a w 33).getD ((10 * x1) + x3).toNatClampNeg 0).toNatClampNeg 0) = 0 → ((¬ ((x2 >>> (x3 &&& 31)) &&& 1) = 1 → (gk_out (w_i w 26 12) 24 = false ∧ gk_W none (d + 1) 171 7 [some (.ref 27), some (.int x1), some (.int x2), some (.int (x3 + 1)), none, none, none] [] (w_si (w_sa w 34 ((w_a w 34).set (w_i w 26 12).toNatClampNeg ((w_a w 33).getD ((10 * x1) + x3).toNatClampNeg 0))) 26 12 ((w_i (w_sa w 34 ((w_a w 34).set (w_i w 26 12).toNatClampNeg ((w_a w 33).getD ((10 * x1) + x3).toNatClampNeg 0))) 26 12) + 1)) r w')) ∧ (((x2 >>> (x3 &&& 31)) &&& 1) = 1 → (r = .inl (some (.int 0)) ∧ w' = w)))) ∧ (¬ (((w_a w 38).getD ((w_a w 33).getD ((10 * x1) + x3).toNatClampNeg 0).toNatClampNeg 0) = 0) → ((¬ ((x2 >>> (x3 &&& 31)) &&& 1) = 1 → (gk_out (w_i w 26 12) 24 = false ∧ gk_W none (d + 1) 171 7 [some (.ref 27), some (.int x1), some (.int x2), some (.int (x3 + 1)), none, none, none] [] (w_si (w_sa w 34 ((w_a w 34).set (w_i w 26 12).toNatClampNeg ((w_a w 33).getD ((10 * x1) + x3).toNatClampNeg 0))) 26 12 ((w_i (w_sa w 34 ((w_a w 34).set (w_i w 26 12).toNatClampNeg ((w_a w 33).getD ((10 * x1) + x3).toNatClampNeg 0))) 26 12) + 1)) r w')) ∧ (((x2 >>> (x3 &&& 31)) &&& 1) = 1 → gk_W none (d + 1) 171 7 [some (.ref 27), some (.int x1), some (.int x2), some (.int (x3 + 1)), none, none, none] [] w r w')))))))))))) :
    gk_W none (d + 1) 171 7 [some (.ref 27), some (.int x1), some (.int x2), some (.int x3), none, none, none] [] w r w' := by
  refine gk_W_s 2 (pc1 := 9) (l1 := [some (.ref 27), some (.int x1), some (.int x2), some (.int x3), none, none, none]) (st1 := [.ref 27, .int x3]) rfl ?_
  refine gk_W_h (i := .getfield 30) 12 rfl rfl (h_gr (a := 26) (k := 10) (m := 33) hS ly_26 rfl) rfl ?_
  refine gk_W_s 1 (pc1 := 13) (l1 := [some (.ref 27), some (.int x1), some (.int x2), some (.int x3), none, none, none]) (st1 := [.int x1, .ref 33, .int x3]) rfl ?_
  obtain ⟨hb1, h⟩ := h
  refine gk_W_h (i := .iaload) 14 rfl rfl (h_al (a := 32) (scr := none) hS ly_32 hb1) rfl ?_
  refine gk_W_b 1 (((w_a w 32).getD x1.toNatClampNeg 0) ≤ x3) (t := 118) (e := 17) (l1 := [some (.ref 27), some (.int x1), some (.int x2), some (.int x3), none, none, none]) (st1 := []) rfl (fun hp2 => ?_) (fun hp2 => ?_)
  · have h := h.1 hp2
    refine gk_W_s 1 (pc1 := 119) (l1 := [some (.ref 27), some (.int x1), some (.int x2), some (.int x3), none, none, none]) (st1 := [.int 1]) rfl ?_
    obtain ⟨rfl, rfl⟩ := h
    exact gk_W_r (i := .ireturn) rfl rfl rfl
  · have h := h.2 hp2
    refine gk_W_s 1 (pc1 := 18) (l1 := [some (.ref 27), some (.int x1), some (.int x2), some (.int x3), none, none, none]) (st1 := [.ref 27]) rfl ?_
    refine gk_W_h (i := .getfield 33) 21 rfl rfl (h_gr (a := 26) (k := 11) (m := 34) hS ly_26 rfl) rfl ?_
    refine gk_W_s 5 (pc1 := 27) (l1 := [some (.ref 27), some (.int x1), some (.int x2), some (.int x3), none, none, none]) (st1 := [.int ((10 * x1) + x3), .ref 34]) rfl ?_
    obtain ⟨hb3, h⟩ := h
    refine gk_W_h (i := .iaload) 28 rfl rfl (h_al (a := 33) (scr := none) hS ly_33 hb3) rfl ?_
    refine gk_W_s 2 (pc1 := 32) (l1 := [some (.ref 27), some (.int x1), some (.int x2), some (.int x3), some (.int ((w_a w 33).getD ((10 * x1) + x3).toNatClampNeg 0)), none, none]) (st1 := [.int ((w_a w 33).getD ((10 * x1) + x3).toNatClampNeg 0)]) rfl ?_
    refine gk_W_c (i := .invokestatic 166) [.int (f_163 ((w_a w 33).getD ((10 * x1) + x3).toNatClampNeg 0))] 35 rfl rfl rfl (f_163_E ((w_a w 33).getD ((10 * x1) + x3).toNatClampNeg 0)) rfl rfl ?_
    refine gk_W_b 1 ((f_163 ((w_a w 33).getD ((10 * x1) + x3).toNatClampNeg 0)) = 0) (t := 52) (e := 38) (l1 := [some (.ref 27), some (.int x1), some (.int x2), some (.int x3), some (.int ((w_a w 33).getD ((10 * x1) + x3).toNatClampNeg 0)), none, none]) (st1 := []) rfl (fun hp4 => ?_) (fun hp4 => ?_)
    · have h := h.1 hp4
      refine gk_W_b 9 (¬ ((x2 >>> (x3 &&& 31)) &&& 1) = 1) (t := 68) (e := 64) (l1 := [some (.ref 27), some (.int x1), some (.int x2), some (.int x3), some (.int ((w_a w 33).getD ((10 * x1) + x3).toNatClampNeg 0)), some (.int 0), none]) (st1 := []) rfl (fun hp5 => ?_) (fun hp5 => ?_)
      · have h := h.1 hp5
        refine gk_W_s 7 (pc1 := 92) (l1 := [some (.ref 27), some (.int x1), some (.int x2), some (.int x3), some (.int ((w_a w 33).getD ((10 * x1) + x3).toNatClampNeg 0)), some (.int 0), some (.int 0)]) (st1 := [.ref 27]) rfl ?_
        refine gk_W_h (i := .getfield 36) 95 rfl rfl (h_gr (a := 26) (k := 13) (m := 35) hS ly_26 rfl) rfl ?_
        refine gk_W_s 1 (pc1 := 96) (l1 := [some (.ref 27), some (.int x1), some (.int x2), some (.int x3), some (.int ((w_a w 33).getD ((10 * x1) + x3).toNatClampNeg 0)), some (.int 0), some (.int 0)]) (st1 := [.ref 27, .ref 35]) rfl ?_
        refine gk_W_h (i := .getfield 100) 99 rfl rfl (h_gi (a := 26) (k := 12) hS ly_26 rfl) rfl ?_
        refine gk_W_s 1 (pc1 := 101) (l1 := [some (.ref 27), some (.int x1), some (.int x2), some (.int x3), some (.int ((w_a w 33).getD ((10 * x1) + x3).toNatClampNeg 0)), some (.int 0), some (.int 0)]) (st1 := [.int ((w_a w 33).getD ((10 * x1) + x3).toNatClampNeg 0), .int (w_i w 26 12), .ref 35]) rfl ?_
        obtain ⟨hb6, h⟩ := h
        refine gk_W_h (i := .iastore) 102 rfl rfl (h_as (a := 34) (t := 0) hS ly_34 hb6 rfl) rfl ?_
        refine gk_W_s 2 (pc1 := 104) (l1 := [some (.ref 27), some (.int x1), some (.int x2), some (.int x3), some (.int ((w_a w 33).getD ((10 * x1) + x3).toNatClampNeg 0)), some (.int 0), some (.int 0)]) (st1 := [.ref 27, .ref 27]) rfl ?_
        refine gk_W_h (i := .getfield 100) 107 rfl rfl (h_gi (a := 26) (k := 12) (sh_as hS ly_34 ((w_i w 26 12).toNatClampNeg) ((w_a w 33).getD ((10 * x1) + x3).toNatClampNeg 0)) ly_26 rfl) rfl ?_
        refine gk_W_s 2 (pc1 := 109) (l1 := [some (.ref 27), some (.int x1), some (.int x2), some (.int x3), some (.int ((w_a w 33).getD ((10 * x1) + x3).toNatClampNeg 0)), some (.int 0), some (.int 0)]) (st1 := [.int ((w_i (w_sa w 34 ((w_a w 34).set (w_i w 26 12).toNatClampNeg ((w_a w 33).getD ((10 * x1) + x3).toNatClampNeg 0))) 26 12) + 1), .ref 27]) rfl ?_
        refine gk_W_h (i := .putfield 100) 112 rfl rfl (h_pi (a := 26) (k := 12) (x := (w_i (w_sa w 34 ((w_a w 34).set (w_i w 26 12).toNatClampNeg ((w_a w 33).getD ((10 * x1) + x3).toNatClampNeg 0))) 26 12) + 1) (sh_as hS ly_34 ((w_i w 26 12).toNatClampNeg) ((w_a w 33).getD ((10 * x1) + x3).toNatClampNeg 0)) ly_26 rfl rfl) rfl ?_
        refine gk_W_s 2 (pc1 := 7) (l1 := [some (.ref 27), some (.int x1), some (.int x2), some (.int (x3 + 1)), some (.int ((w_a w 33).getD ((10 * x1) + x3).toNatClampNeg 0)), some (.int 0), some (.int 0)]) (st1 := []) rfl ?_
        exact gk_W_le (gk_le_s (gk_le_s (gk_le_s (gk_le_s (gk_le_n (gk_le_n (gk_le_n (gk_le_0)))))))) h
      · have h := h.2 (Decidable.not_not.mp hp5)
        refine gk_W_s 8 (pc1 := 82) (l1 := [some (.ref 27), some (.int x1), some (.int x2), some (.int x3), some (.int ((w_a w 33).getD ((10 * x1) + x3).toNatClampNeg 0)), some (.int 0), some (.int 1)]) (st1 := [.int 0]) rfl ?_
        obtain ⟨rfl, rfl⟩ := h
        exact gk_W_r (i := .ireturn) rfl rfl rfl
    · have h := h.2 hp4
      refine gk_W_s 1 (pc1 := 39) (l1 := [some (.ref 27), some (.int x1), some (.int x2), some (.int x3), some (.int ((w_a w 33).getD ((10 * x1) + x3).toNatClampNeg 0)), none, none]) (st1 := [.ref 27]) rfl ?_
      refine gk_W_h (i := .getfield 49) 42 rfl rfl (h_gr (a := 26) (k := 19) (m := 39) hS ly_26 rfl) rfl ?_
      refine gk_W_s 1 (pc1 := 44) (l1 := [some (.ref 27), some (.int x1), some (.int x2), some (.int x3), some (.int ((w_a w 33).getD ((10 * x1) + x3).toNatClampNeg 0)), none, none]) (st1 := [.int ((w_a w 33).getD ((10 * x1) + x3).toNatClampNeg 0), .ref 39]) rfl ?_
      obtain ⟨hb7, h⟩ := h
      refine gk_W_h (i := .baload) 45 rfl rfl (h_al (a := 38) (scr := none) hS ly_38 hb7) rfl ?_
      refine gk_W_b 1 (((w_a w 38).getD ((w_a w 33).getD ((10 * x1) + x3).toNatClampNeg 0).toNatClampNeg 0) = 0) (t := 52) (e := 48) (l1 := [some (.ref 27), some (.int x1), some (.int x2), some (.int x3), some (.int ((w_a w 33).getD ((10 * x1) + x3).toNatClampNeg 0)), none, none]) (st1 := []) rfl (fun hp8 => ?_) (fun hp8 => ?_)
      · have h := h.1 hp8
        refine gk_W_b 9 (¬ ((x2 >>> (x3 &&& 31)) &&& 1) = 1) (t := 68) (e := 64) (l1 := [some (.ref 27), some (.int x1), some (.int x2), some (.int x3), some (.int ((w_a w 33).getD ((10 * x1) + x3).toNatClampNeg 0)), some (.int 0), none]) (st1 := []) rfl (fun hp9 => ?_) (fun hp9 => ?_)
        · have h := h.1 hp9
          refine gk_W_s 7 (pc1 := 92) (l1 := [some (.ref 27), some (.int x1), some (.int x2), some (.int x3), some (.int ((w_a w 33).getD ((10 * x1) + x3).toNatClampNeg 0)), some (.int 0), some (.int 0)]) (st1 := [.ref 27]) rfl ?_
          refine gk_W_h (i := .getfield 36) 95 rfl rfl (h_gr (a := 26) (k := 13) (m := 35) hS ly_26 rfl) rfl ?_
          refine gk_W_s 1 (pc1 := 96) (l1 := [some (.ref 27), some (.int x1), some (.int x2), some (.int x3), some (.int ((w_a w 33).getD ((10 * x1) + x3).toNatClampNeg 0)), some (.int 0), some (.int 0)]) (st1 := [.ref 27, .ref 35]) rfl ?_
          refine gk_W_h (i := .getfield 100) 99 rfl rfl (h_gi (a := 26) (k := 12) hS ly_26 rfl) rfl ?_
          refine gk_W_s 1 (pc1 := 101) (l1 := [some (.ref 27), some (.int x1), some (.int x2), some (.int x3), some (.int ((w_a w 33).getD ((10 * x1) + x3).toNatClampNeg 0)), some (.int 0), some (.int 0)]) (st1 := [.int ((w_a w 33).getD ((10 * x1) + x3).toNatClampNeg 0), .int (w_i w 26 12), .ref 35]) rfl ?_
          obtain ⟨hb10, h⟩ := h
          refine gk_W_h (i := .iastore) 102 rfl rfl (h_as (a := 34) (t := 0) hS ly_34 hb10 rfl) rfl ?_
          refine gk_W_s 2 (pc1 := 104) (l1 := [some (.ref 27), some (.int x1), some (.int x2), some (.int x3), some (.int ((w_a w 33).getD ((10 * x1) + x3).toNatClampNeg 0)), some (.int 0), some (.int 0)]) (st1 := [.ref 27, .ref 27]) rfl ?_
          refine gk_W_h (i := .getfield 100) 107 rfl rfl (h_gi (a := 26) (k := 12) (sh_as hS ly_34 ((w_i w 26 12).toNatClampNeg) ((w_a w 33).getD ((10 * x1) + x3).toNatClampNeg 0)) ly_26 rfl) rfl ?_
          refine gk_W_s 2 (pc1 := 109) (l1 := [some (.ref 27), some (.int x1), some (.int x2), some (.int x3), some (.int ((w_a w 33).getD ((10 * x1) + x3).toNatClampNeg 0)), some (.int 0), some (.int 0)]) (st1 := [.int ((w_i (w_sa w 34 ((w_a w 34).set (w_i w 26 12).toNatClampNeg ((w_a w 33).getD ((10 * x1) + x3).toNatClampNeg 0))) 26 12) + 1), .ref 27]) rfl ?_
          refine gk_W_h (i := .putfield 100) 112 rfl rfl (h_pi (a := 26) (k := 12) (x := (w_i (w_sa w 34 ((w_a w 34).set (w_i w 26 12).toNatClampNeg ((w_a w 33).getD ((10 * x1) + x3).toNatClampNeg 0))) 26 12) + 1) (sh_as hS ly_34 ((w_i w 26 12).toNatClampNeg) ((w_a w 33).getD ((10 * x1) + x3).toNatClampNeg 0)) ly_26 rfl rfl) rfl ?_
          refine gk_W_s 2 (pc1 := 7) (l1 := [some (.ref 27), some (.int x1), some (.int x2), some (.int (x3 + 1)), some (.int ((w_a w 33).getD ((10 * x1) + x3).toNatClampNeg 0)), some (.int 0), some (.int 0)]) (st1 := []) rfl ?_
          exact gk_W_le (gk_le_s (gk_le_s (gk_le_s (gk_le_s (gk_le_n (gk_le_n (gk_le_n (gk_le_0)))))))) h
        · have h := h.2 (Decidable.not_not.mp hp9)
          refine gk_W_s 8 (pc1 := 82) (l1 := [some (.ref 27), some (.int x1), some (.int x2), some (.int x3), some (.int ((w_a w 33).getD ((10 * x1) + x3).toNatClampNeg 0)), some (.int 0), some (.int 1)]) (st1 := [.int 0]) rfl ?_
          obtain ⟨rfl, rfl⟩ := h
          exact gk_W_r (i := .ireturn) rfl rfl rfl
      · have h := h.2 hp8
        refine gk_W_b 10 (¬ ((x2 >>> (x3 &&& 31)) &&& 1) = 1) (t := 68) (e := 64) (l1 := [some (.ref 27), some (.int x1), some (.int x2), some (.int x3), some (.int ((w_a w 33).getD ((10 * x1) + x3).toNatClampNeg 0)), some (.int 1), none]) (st1 := []) rfl (fun hp11 => ?_) (fun hp11 => ?_)
        · have h := h.1 hp11
          refine gk_W_s 7 (pc1 := 92) (l1 := [some (.ref 27), some (.int x1), some (.int x2), some (.int x3), some (.int ((w_a w 33).getD ((10 * x1) + x3).toNatClampNeg 0)), some (.int 1), some (.int 0)]) (st1 := [.ref 27]) rfl ?_
          refine gk_W_h (i := .getfield 36) 95 rfl rfl (h_gr (a := 26) (k := 13) (m := 35) hS ly_26 rfl) rfl ?_
          refine gk_W_s 1 (pc1 := 96) (l1 := [some (.ref 27), some (.int x1), some (.int x2), some (.int x3), some (.int ((w_a w 33).getD ((10 * x1) + x3).toNatClampNeg 0)), some (.int 1), some (.int 0)]) (st1 := [.ref 27, .ref 35]) rfl ?_
          refine gk_W_h (i := .getfield 100) 99 rfl rfl (h_gi (a := 26) (k := 12) hS ly_26 rfl) rfl ?_
          refine gk_W_s 1 (pc1 := 101) (l1 := [some (.ref 27), some (.int x1), some (.int x2), some (.int x3), some (.int ((w_a w 33).getD ((10 * x1) + x3).toNatClampNeg 0)), some (.int 1), some (.int 0)]) (st1 := [.int ((w_a w 33).getD ((10 * x1) + x3).toNatClampNeg 0), .int (w_i w 26 12), .ref 35]) rfl ?_
          obtain ⟨hb12, h⟩ := h
          refine gk_W_h (i := .iastore) 102 rfl rfl (h_as (a := 34) (t := 0) hS ly_34 hb12 rfl) rfl ?_
          refine gk_W_s 2 (pc1 := 104) (l1 := [some (.ref 27), some (.int x1), some (.int x2), some (.int x3), some (.int ((w_a w 33).getD ((10 * x1) + x3).toNatClampNeg 0)), some (.int 1), some (.int 0)]) (st1 := [.ref 27, .ref 27]) rfl ?_
          refine gk_W_h (i := .getfield 100) 107 rfl rfl (h_gi (a := 26) (k := 12) (sh_as hS ly_34 ((w_i w 26 12).toNatClampNeg) ((w_a w 33).getD ((10 * x1) + x3).toNatClampNeg 0)) ly_26 rfl) rfl ?_
          refine gk_W_s 2 (pc1 := 109) (l1 := [some (.ref 27), some (.int x1), some (.int x2), some (.int x3), some (.int ((w_a w 33).getD ((10 * x1) + x3).toNatClampNeg 0)), some (.int 1), some (.int 0)]) (st1 := [.int ((w_i (w_sa w 34 ((w_a w 34).set (w_i w 26 12).toNatClampNeg ((w_a w 33).getD ((10 * x1) + x3).toNatClampNeg 0))) 26 12) + 1), .ref 27]) rfl ?_
          refine gk_W_h (i := .putfield 100) 112 rfl rfl (h_pi (a := 26) (k := 12) (x := (w_i (w_sa w 34 ((w_a w 34).set (w_i w 26 12).toNatClampNeg ((w_a w 33).getD ((10 * x1) + x3).toNatClampNeg 0))) 26 12) + 1) (sh_as hS ly_34 ((w_i w 26 12).toNatClampNeg) ((w_a w 33).getD ((10 * x1) + x3).toNatClampNeg 0)) ly_26 rfl rfl) rfl ?_
          refine gk_W_s 2 (pc1 := 7) (l1 := [some (.ref 27), some (.int x1), some (.int x2), some (.int (x3 + 1)), some (.int ((w_a w 33).getD ((10 * x1) + x3).toNatClampNeg 0)), some (.int 1), some (.int 0)]) (st1 := []) rfl ?_
          exact gk_W_le (gk_le_s (gk_le_s (gk_le_s (gk_le_s (gk_le_n (gk_le_n (gk_le_n (gk_le_0)))))))) h
        · have h := h.2 (Decidable.not_not.mp hp11)
          refine gk_W_s 12 (pc1 := 7) (l1 := [some (.ref 27), some (.int x1), some (.int x2), some (.int (x3 + 1)), some (.int ((w_a w 33).getD ((10 * x1) + x3).toNatClampNeg 0)), some (.int 1), some (.int 1)]) (st1 := []) rfl ?_
          exact gk_W_le (gk_le_s (gk_le_s (gk_le_s (gk_le_s (gk_le_n (gk_le_n (gk_le_n (gk_le_0)))))))) h
set_option maxRecDepth 8000 in
/-- GrammarDeskModel.finish()I, at 0 -/
theorem sg_172_0 {d : Nat} {rr : List gk_S} {w w' : gk_Wd} {r : gk_Res} (hS : gk_Sh rr w)
    (h : gk_W none (d + 1) 172 10 [some (.ref 27), some (.int 0), none] [] (w_si w 26 8 (w_i w 26 32)) r w') :
    gk_W none (d + 1) 172 0 [some (.ref 27), none, none] [] w r w' := by
  refine gk_W_s 2 (pc1 := 2) (l1 := [some (.ref 27), none, none]) (st1 := [.ref 27, .ref 27]) rfl ?_
  refine gk_W_h (i := .getfield 192) 5 rfl rfl (h_gi (a := 26) (k := 32) hS ly_26 rfl) rfl ?_
  refine gk_W_h (i := .putfield 124) 8 rfl rfl (h_pi (a := 26) (k := 8) (x := w_i w 26 32) hS ly_26 rfl rfl) rfl ?_
  refine gk_W_s 2 (pc1 := 10) (l1 := [some (.ref 27), some (.int 0), none]) (st1 := []) rfl ?_
  exact h
set_option maxRecDepth 8000 in
/-- GrammarDeskModel.finish()I, at 10 -/
theorem sg_172_10 {d : Nat} {rr : List gk_S} {w w' : gk_Wd} {r : gk_Res} (hS : gk_Sh rr w) (x1 : Int32)
    (h : (((w_i w 26 32) ≤ x1 → (∃ (v3 : Int32), ∃ (w4 : gk_Wd), gk_E d 173 [.ref 27] w (.inl (some (.int v3))) w4 ∧ gk_Sh rr w4 ∧ (r = .inl (some (.int v3)) ∧ w' = w4))) ∧ (¬ ((w_i w 26 32) ≤ x1) → (gk_out x1 64 = false ∧ (gk_out x1 64 = false ∧ (gk_out x1 64 = false ∧ (gk_out x1 64 = false ∧ gk_W none (d + 1) 172 44 [some (.ref 27), some (.int x1), some (.int 0)] [] (w_sa (w_sa w 31 ((w_a w 31).set x1.toNatClampNeg ((w_a w 48).getD x1.toNatClampNeg 0))) 32 ((w_a (w_sa w 31 ((w_a w 31).set x1.toNatClampNeg ((w_a w 48).getD x1.toNatClampNeg 0))) 32).set x1.toNatClampNeg ((w_a (w_sa w 31 ((w_a w 31).set x1.toNatClampNeg ((w_a w 48).getD x1.toNatClampNeg 0))) 49).getD x1.toNatClampNeg 0))) r w'))))))) :
    gk_W none (d + 1) 172 10 [some (.ref 27), some (.int x1), none] [] w r w' := by
  refine gk_W_s 2 (pc1 := 12) (l1 := [some (.ref 27), some (.int x1), none]) (st1 := [.ref 27, .int x1]) rfl ?_
  refine gk_W_h (i := .getfield 192) 15 rfl rfl (h_gi (a := 26) (k := 32) hS ly_26 rfl) rfl ?_
  refine gk_W_b 1 ((w_i w 26 32) ≤ x1) (t := 84) (e := 18) (l1 := [some (.ref 27), some (.int x1), none]) (st1 := []) rfl (fun hp1 => ?_) (fun hp1 => ?_)
  · have h := h.1 hp1
    refine gk_W_s 1 (pc1 := 85) (l1 := [some (.ref 27), some (.int x1), none]) (st1 := [.ref 27]) rfl ?_
    obtain ⟨v3, w4, hE2, hS5, h⟩ := h
    refine gk_W_c (i := .invokevirtual 198) [.int v3] 88 rfl rfl (c_v (a := 26) hS ly_26 rfl rfl (Nat.le_of_ble_eq_true rfl)) hE2 rfl rfl ?_
    obtain ⟨rfl, rfl⟩ := h
    exact gk_W_r (i := .ireturn) rfl rfl rfl
  · have h := h.2 hp1
    refine gk_W_s 1 (pc1 := 19) (l1 := [some (.ref 27), some (.int x1), none]) (st1 := [.ref 27]) rfl ?_
    refine gk_W_h (i := .getfield 27) 22 rfl rfl (h_gr (a := 26) (k := 9) (m := 32) hS ly_26 rfl) rfl ?_
    refine gk_W_s 2 (pc1 := 24) (l1 := [some (.ref 27), some (.int x1), none]) (st1 := [.ref 27, .int x1, .ref 32]) rfl ?_
    refine gk_W_h (i := .getfield 79) 27 rfl rfl (h_gr (a := 26) (k := 33) (m := 49) hS ly_26 rfl) rfl ?_
    refine gk_W_s 1 (pc1 := 28) (l1 := [some (.ref 27), some (.int x1), none]) (st1 := [.int x1, .ref 49, .int x1, .ref 32]) rfl ?_
    obtain ⟨hb6, h⟩ := h
    refine gk_W_h (i := .iaload) 29 rfl rfl (h_al (a := 48) (scr := none) hS ly_48 hb6) rfl ?_
    obtain ⟨hb7, h⟩ := h
    refine gk_W_h (i := .iastore) 30 rfl rfl (h_as (a := 31) (t := 0) hS ly_31 hb7 rfl) rfl ?_
    refine gk_W_s 1 (pc1 := 31) (l1 := [some (.ref 27), some (.int x1), none]) (st1 := [.ref 27]) rfl ?_
    refine gk_W_h (i := .getfield 30) 34 rfl rfl (h_gr (a := 26) (k := 10) (m := 33) (sh_as hS ly_31 (x1.toNatClampNeg) ((w_a w 48).getD x1.toNatClampNeg 0)) ly_26 rfl) rfl ?_
    refine gk_W_s 2 (pc1 := 36) (l1 := [some (.ref 27), some (.int x1), none]) (st1 := [.ref 27, .int x1, .ref 33]) rfl ?_
    refine gk_W_h (i := .getfield 82) 39 rfl rfl (h_gr (a := 26) (k := 34) (m := 50) (sh_as hS ly_31 (x1.toNatClampNeg) ((w_a w 48).getD x1.toNatClampNeg 0)) ly_26 rfl) rfl ?_
    refine gk_W_s 1 (pc1 := 40) (l1 := [some (.ref 27), some (.int x1), none]) (st1 := [.int x1, .ref 50, .int x1, .ref 33]) rfl ?_
    obtain ⟨hb8, h⟩ := h
    refine gk_W_h (i := .iaload) 41 rfl rfl (h_al (a := 49) (scr := none) (sh_as hS ly_31 (x1.toNatClampNeg) ((w_a w 48).getD x1.toNatClampNeg 0)) ly_49 hb8) rfl ?_
    obtain ⟨hb9, h⟩ := h
    refine gk_W_h (i := .iastore) 42 rfl rfl (h_as (a := 32) (t := 0) (sh_as hS ly_31 (x1.toNatClampNeg) ((w_a w 48).getD x1.toNatClampNeg 0)) ly_32 hb9 rfl) rfl ?_
    refine gk_W_s 2 (pc1 := 44) (l1 := [some (.ref 27), some (.int x1), some (.int 0)]) (st1 := []) rfl ?_
    exact h
set_option maxRecDepth 8000 in
/-- GrammarDeskModel.finish()I, at 44 -/
theorem sg_172_44 {d : Nat} {rr : List gk_S} {w w' : gk_Wd} {r : gk_Res} (hS : gk_Sh rr w) (x1 : Int32) (x2 : Int32)
    (h : ((10 ≤ x2 → gk_W none (d + 1) 172 10 [some (.ref 27), some (.int (x1 + 1)), none] [] w r w') ∧ (¬ (10 ≤ x2) → (gk_out ((10 * x1) + x2) 640 = false ∧ (gk_out ((10 * x1) + x2) 640 = false ∧ gk_W none (d + 1) 172 44 [some (.ref 27), some (.int x1), some (.int (x2 + 1))] [] (w_sa w 33 ((w_a w 33).set ((10 * x1) + x2).toNatClampNeg ((w_a w 50).getD ((10 * x1) + x2).toNatClampNeg 0))) r w'))))) :
    gk_W none (d + 1) 172 44 [some (.ref 27), some (.int x1), some (.int x2)] [] w r w' := by
  refine gk_W_b 3 (10 ≤ x2) (t := 78) (e := 50) (l1 := [some (.ref 27), some (.int x1), some (.int x2)]) (st1 := []) rfl (fun hp1 => ?_) (fun hp1 => ?_)
  · have h := h.1 hp1
    refine gk_W_s 2 (pc1 := 10) (l1 := [some (.ref 27), some (.int (x1 + 1)), some (.int x2)]) (st1 := []) rfl ?_
    exact gk_W_le (gk_le_s (gk_le_s (gk_le_n (gk_le_0)))) h
  · have h := h.2 hp1
    refine gk_W_s 1 (pc1 := 51) (l1 := [some (.ref 27), some (.int x1), some (.int x2)]) (st1 := [.ref 27]) rfl ?_
    refine gk_W_h (i := .getfield 33) 54 rfl rfl (h_gr (a := 26) (k := 11) (m := 34) hS ly_26 rfl) rfl ?_
    refine gk_W_s 6 (pc1 := 61) (l1 := [some (.ref 27), some (.int x1), some (.int x2)]) (st1 := [.ref 27, .int ((10 * x1) + x2), .ref 34]) rfl ?_
    refine gk_W_h (i := .getfield 85) 64 rfl rfl (h_gr (a := 26) (k := 35) (m := 51) hS ly_26 rfl) rfl ?_
    refine gk_W_s 5 (pc1 := 70) (l1 := [some (.ref 27), some (.int x1), some (.int x2)]) (st1 := [.int ((10 * x1) + x2), .ref 51, .int ((10 * x1) + x2), .ref 34]) rfl ?_
    obtain ⟨hb2, h⟩ := h
    refine gk_W_h (i := .iaload) 71 rfl rfl (h_al (a := 50) (scr := none) hS ly_50 hb2) rfl ?_
    obtain ⟨hb3, h⟩ := h
    refine gk_W_h (i := .iastore) 72 rfl rfl (h_as (a := 33) (t := 0) hS ly_33 hb3 rfl) rfl ?_
    refine gk_W_s 2 (pc1 := 44) (l1 := [some (.ref 27), some (.int x1), some (.int (x2 + 1))]) (st1 := []) rfl ?_
    exact h
set_option maxRecDepth 8000 in
/-- GrammarDeskModel.settled()I, at 0 -/
theorem sg_173_0 {d : Nat} {rr : List gk_S} {w w' : gk_Wd} {r : gk_Res} (hS : gk_Sh rr w)
    (h : (((w_i w 26 14) = 0 → (∃ (v3 : Int32), gk_E d 175 [.ref 27] w (.inl (some (.int v3))) w ∧ ((¬ v3 = 0 → (r = .inl (some (.int (w_i w 26 4))) ∧ w' = w)) ∧ (v3 = 0 → (r = .inl (some (.int (w_i (w_si w 26 28 0) 26 4))) ∧ w' = w_si w 26 28 0))))) ∧ (¬ ((w_i w 26 14) = 0) → (∃ (w6 : gk_Wd), gk_E d 174 [.ref 27] w (.inl none) w6 ∧ gk_Sh rr w6 ∧ (∃ (v9 : Int32), ∃ (w10 : gk_Wd), gk_E d 146 [.ref 27, .int 1] w6 (.inl (some (.int v9))) w10 ∧ gk_Sh rr w10 ∧ (r = .inl (some (.int v9)) ∧ w' = w10)))))) :
    gk_W none (d + 1) 173 0 [some (.ref 27)] [] w r w' := by
  refine gk_W_s 1 (pc1 := 1) (l1 := [some (.ref 27)]) (st1 := [.ref 27]) rfl ?_
  refine gk_W_h (i := .getfield 107) 4 rfl rfl (h_gi (a := 26) (k := 14) hS ly_26 rfl) rfl ?_
  refine gk_W_b 1 ((w_i w 26 14) = 0) (t := 17) (e := 7) (l1 := [some (.ref 27)]) (st1 := []) rfl (fun hp1 => ?_) (fun hp1 => ?_)
  · have h := h.1 hp1
    refine gk_W_s 1 (pc1 := 18) (l1 := [some (.ref 27)]) (st1 := [.ref 27]) rfl ?_
    obtain ⟨v3, hE2, h⟩ := h
    refine gk_W_c (i := .invokevirtual 134) [.int v3] 21 rfl rfl (c_v (a := 26) hS ly_26 rfl rfl (Nat.le_of_ble_eq_true rfl)) hE2 rfl rfl ?_
    refine gk_W_b 1 (¬ v3 = 0) (t := 29) (e := 24) (l1 := [some (.ref 27)]) (st1 := []) rfl (fun hp4 => ?_) (fun hp4 => ?_)
    · have h := h.1 hp4
      refine gk_W_s 1 (pc1 := 30) (l1 := [some (.ref 27)]) (st1 := [.ref 27]) rfl ?_
      refine gk_W_h (i := .getfield 111) 33 rfl rfl (h_gi (a := 26) (k := 4) hS ly_26 rfl) rfl ?_
      obtain ⟨rfl, rfl⟩ := h
      exact gk_W_r (i := .ireturn) rfl rfl rfl
    · have h := h.2 (Decidable.not_not.mp hp4)
      refine gk_W_s 2 (pc1 := 26) (l1 := [some (.ref 27)]) (st1 := [.int 0, .ref 27]) rfl ?_
      refine gk_W_h (i := .putfield 138) 29 rfl rfl (h_pi (a := 26) (k := 28) (x := 0) hS ly_26 rfl rfl) rfl ?_
      refine gk_W_s 1 (pc1 := 30) (l1 := [some (.ref 27)]) (st1 := [.ref 27]) rfl ?_
      refine gk_W_h (i := .getfield 111) 33 rfl rfl (h_gi (a := 26) (k := 4) (sh_si hS ly_26 (k := 28) rfl 0) ly_26 rfl) rfl ?_
      obtain ⟨rfl, rfl⟩ := h
      exact gk_W_r (i := .ireturn) rfl rfl rfl
  · have h := h.2 hp1
    refine gk_W_s 1 (pc1 := 8) (l1 := [some (.ref 27)]) (st1 := [.ref 27]) rfl ?_
    obtain ⟨w6, hE5, hS7, h⟩ := h
    refine gk_W_c (i := .invokevirtual 127) [] 11 rfl rfl (c_v (a := 26) hS ly_26 rfl rfl (Nat.le_of_ble_eq_true rfl)) hE5 rfl rfl ?_
    refine gk_W_s 2 (pc1 := 13) (l1 := [some (.ref 27)]) (st1 := [.int 1, .ref 27]) rfl ?_
    obtain ⟨v9, w10, hE8, hS11, h⟩ := h
    refine gk_W_c (i := .invokevirtual 130) [.int v9] 16 rfl rfl (c_v (a := 26) hS7 ly_26 rfl rfl (Nat.le_of_ble_eq_true rfl)) hE8 rfl rfl ?_
    obtain ⟨rfl, rfl⟩ := h
    exact gk_W_r (i := .ireturn) rfl rfl rfl
set_option maxRecDepth 8000 in
/-- GrammarDeskModel.restore()V, at 0 -/
theorem sg_174_0 {d : Nat} {rr : List gk_S} {w w' : gk_Wd} {r : gk_Res} (hS : gk_Sh rr w)
    (h : gk_W none d 174 10 [some (.ref 27), some (.int 0), none] [] (w_si w 26 4 (w_i w 26 8)) r w') :
    gk_W none d 174 0 [some (.ref 27), none, none] [] w r w' := by
  refine gk_W_s 2 (pc1 := 2) (l1 := [some (.ref 27), none, none]) (st1 := [.ref 27, .ref 27]) rfl ?_
  refine gk_W_h (i := .getfield 124) 5 rfl rfl (h_gi (a := 26) (k := 8) hS ly_26 rfl) rfl ?_
  refine gk_W_h (i := .putfield 111) 8 rfl rfl (h_pi (a := 26) (k := 4) (x := w_i w 26 8) hS ly_26 rfl rfl) rfl ?_
  refine gk_W_s 2 (pc1 := 10) (l1 := [some (.ref 27), some (.int 0), none]) (st1 := []) rfl ?_
  exact h
set_option maxRecDepth 8000 in
/-- GrammarDeskModel.restore()V, at 10 -/
theorem sg_174_10 {d : Nat} {rr : List gk_S} {w w' : gk_Wd} {r : gk_Res} (hS : gk_Sh rr w) (x1 : Int32)
    (h : (((w_i w 26 4) ≤ x1 → (r = .inl none ∧ w' = w)) ∧ (¬ ((w_i w 26 4) ≤ x1) → (gk_out x1 64 = false ∧ (gk_out x1 64 = false ∧ (gk_out x1 64 = false ∧ (gk_out x1 64 = false ∧ gk_W none d 174 44 [some (.ref 27), some (.int x1), some (.int 0)] [] (w_sa (w_sa w 28 ((w_a w 28).set x1.toNatClampNeg ((w_a w 31).getD x1.toNatClampNeg 0))) 29 ((w_a (w_sa w 28 ((w_a w 28).set x1.toNatClampNeg ((w_a w 31).getD x1.toNatClampNeg 0))) 29).set x1.toNatClampNeg ((w_a (w_sa w 28 ((w_a w 28).set x1.toNatClampNeg ((w_a w 31).getD x1.toNatClampNeg 0))) 32).getD x1.toNatClampNeg 0))) r w'))))))) :
    gk_W none d 174 10 [some (.ref 27), some (.int x1), none] [] w r w' := by
  refine gk_W_s 2 (pc1 := 12) (l1 := [some (.ref 27), some (.int x1), none]) (st1 := [.ref 27, .int x1]) rfl ?_
  refine gk_W_h (i := .getfield 111) 15 rfl rfl (h_gi (a := 26) (k := 4) hS ly_26 rfl) rfl ?_
  refine gk_W_b 1 ((w_i w 26 4) ≤ x1) (t := 84) (e := 18) (l1 := [some (.ref 27), some (.int x1), none]) (st1 := []) rfl (fun hp1 => ?_) (fun hp1 => ?_)
  · have h := h.1 hp1
    obtain ⟨rfl, rfl⟩ := h
    exact gk_W_r (i := .return_) rfl rfl rfl
  · have h := h.2 hp1
    refine gk_W_s 1 (pc1 := 19) (l1 := [some (.ref 27), some (.int x1), none]) (st1 := [.ref 27]) rfl ?_
    refine gk_W_h (i := .getfield 17) 22 rfl rfl (h_gr (a := 26) (k := 5) (m := 29) hS ly_26 rfl) rfl ?_
    refine gk_W_s 2 (pc1 := 24) (l1 := [some (.ref 27), some (.int x1), none]) (st1 := [.ref 27, .int x1, .ref 29]) rfl ?_
    refine gk_W_h (i := .getfield 27) 27 rfl rfl (h_gr (a := 26) (k := 9) (m := 32) hS ly_26 rfl) rfl ?_
    refine gk_W_s 1 (pc1 := 28) (l1 := [some (.ref 27), some (.int x1), none]) (st1 := [.int x1, .ref 32, .int x1, .ref 29]) rfl ?_
    obtain ⟨hb2, h⟩ := h
    refine gk_W_h (i := .iaload) 29 rfl rfl (h_al (a := 31) (scr := none) hS ly_31 hb2) rfl ?_
    obtain ⟨hb3, h⟩ := h
    refine gk_W_h (i := .iastore) 30 rfl rfl (h_as (a := 28) (t := 0) hS ly_28 hb3 rfl) rfl ?_
    refine gk_W_s 1 (pc1 := 31) (l1 := [some (.ref 27), some (.int x1), none]) (st1 := [.ref 27]) rfl ?_
    refine gk_W_h (i := .getfield 21) 34 rfl rfl (h_gr (a := 26) (k := 6) (m := 30) (sh_as hS ly_28 (x1.toNatClampNeg) ((w_a w 31).getD x1.toNatClampNeg 0)) ly_26 rfl) rfl ?_
    refine gk_W_s 2 (pc1 := 36) (l1 := [some (.ref 27), some (.int x1), none]) (st1 := [.ref 27, .int x1, .ref 30]) rfl ?_
    refine gk_W_h (i := .getfield 30) 39 rfl rfl (h_gr (a := 26) (k := 10) (m := 33) (sh_as hS ly_28 (x1.toNatClampNeg) ((w_a w 31).getD x1.toNatClampNeg 0)) ly_26 rfl) rfl ?_
    refine gk_W_s 1 (pc1 := 40) (l1 := [some (.ref 27), some (.int x1), none]) (st1 := [.int x1, .ref 33, .int x1, .ref 30]) rfl ?_
    obtain ⟨hb4, h⟩ := h
    refine gk_W_h (i := .iaload) 41 rfl rfl (h_al (a := 32) (scr := none) (sh_as hS ly_28 (x1.toNatClampNeg) ((w_a w 31).getD x1.toNatClampNeg 0)) ly_32 hb4) rfl ?_
    obtain ⟨hb5, h⟩ := h
    refine gk_W_h (i := .iastore) 42 rfl rfl (h_as (a := 29) (t := 0) (sh_as hS ly_28 (x1.toNatClampNeg) ((w_a w 31).getD x1.toNatClampNeg 0)) ly_29 hb5 rfl) rfl ?_
    refine gk_W_s 2 (pc1 := 44) (l1 := [some (.ref 27), some (.int x1), some (.int 0)]) (st1 := []) rfl ?_
    exact h
set_option maxRecDepth 8000 in
/-- GrammarDeskModel.restore()V, at 44 -/
theorem sg_174_44 {d : Nat} {rr : List gk_S} {w w' : gk_Wd} {r : gk_Res} (hS : gk_Sh rr w) (x1 : Int32) (x2 : Int32)
    (h : ((10 ≤ x2 → gk_W none d 174 10 [some (.ref 27), some (.int (x1 + 1)), none] [] w r w') ∧ (¬ (10 ≤ x2) → (gk_out ((10 * x1) + x2) 640 = false ∧ (gk_out ((10 * x1) + x2) 640 = false ∧ gk_W none d 174 44 [some (.ref 27), some (.int x1), some (.int (x2 + 1))] [] (w_sa w 30 ((w_a w 30).set ((10 * x1) + x2).toNatClampNeg ((w_a w 33).getD ((10 * x1) + x2).toNatClampNeg 0))) r w'))))) :
    gk_W none d 174 44 [some (.ref 27), some (.int x1), some (.int x2)] [] w r w' := by
  refine gk_W_b 3 (10 ≤ x2) (t := 78) (e := 50) (l1 := [some (.ref 27), some (.int x1), some (.int x2)]) (st1 := []) rfl (fun hp1 => ?_) (fun hp1 => ?_)
  · have h := h.1 hp1
    refine gk_W_s 2 (pc1 := 10) (l1 := [some (.ref 27), some (.int (x1 + 1)), some (.int x2)]) (st1 := []) rfl ?_
    exact gk_W_le (gk_le_s (gk_le_s (gk_le_n (gk_le_0)))) h
  · have h := h.2 hp1
    refine gk_W_s 1 (pc1 := 51) (l1 := [some (.ref 27), some (.int x1), some (.int x2)]) (st1 := [.ref 27]) rfl ?_
    refine gk_W_h (i := .getfield 24) 54 rfl rfl (h_gr (a := 26) (k := 7) (m := 31) hS ly_26 rfl) rfl ?_
    refine gk_W_s 6 (pc1 := 61) (l1 := [some (.ref 27), some (.int x1), some (.int x2)]) (st1 := [.ref 27, .int ((10 * x1) + x2), .ref 31]) rfl ?_
    refine gk_W_h (i := .getfield 33) 64 rfl rfl (h_gr (a := 26) (k := 11) (m := 34) hS ly_26 rfl) rfl ?_
    refine gk_W_s 5 (pc1 := 70) (l1 := [some (.ref 27), some (.int x1), some (.int x2)]) (st1 := [.int ((10 * x1) + x2), .ref 34, .int ((10 * x1) + x2), .ref 31]) rfl ?_
    obtain ⟨hb2, h⟩ := h
    refine gk_W_h (i := .iaload) 71 rfl rfl (h_al (a := 33) (scr := none) hS ly_33 hb2) rfl ?_
    obtain ⟨hb3, h⟩ := h
    refine gk_W_h (i := .iastore) 72 rfl rfl (h_as (a := 30) (t := 0) hS ly_30 hb3 rfl) rfl ?_
    refine gk_W_s 2 (pc1 := 44) (l1 := [some (.ref 27), some (.int x1), some (.int (x2 + 1))]) (st1 := []) rfl ?_
    exact h
set_option maxRecDepth 8000 in
/-- GrammarDeskModel.isAsBefore()Z, at 0 -/
theorem sg_175_0 {d : Nat} {rr : List gk_S} {w w' : gk_Wd} {r : gk_Res} (hS : gk_Sh rr w)
    (h : ((¬ (w_i w 26 4) = (w_i w 26 8) → gk_W none d 175 19 [some (.ref 27), some (.int 0), some (.int 0), none] [] w r w') ∧ ((w_i w 26 4) = (w_i w 26 8) → gk_W none d 175 19 [some (.ref 27), some (.int 1), some (.int 0), none] [] w r w'))) :
    gk_W none d 175 0 [some (.ref 27), none, none, none] [] w r w' := by
  refine gk_W_s 1 (pc1 := 1) (l1 := [some (.ref 27), none, none, none]) (st1 := [.ref 27]) rfl ?_
  refine gk_W_h (i := .getfield 111) 4 rfl rfl (h_gi (a := 26) (k := 4) hS ly_26 rfl) rfl ?_
  refine gk_W_s 1 (pc1 := 5) (l1 := [some (.ref 27), none, none, none]) (st1 := [.ref 27, .int (w_i w 26 4)]) rfl ?_
  refine gk_W_h (i := .getfield 124) 8 rfl rfl (h_gi (a := 26) (k := 8) hS ly_26 rfl) rfl ?_
  refine gk_W_b 1 (¬ (w_i w 26 4) = (w_i w 26 8)) (t := 15) (e := 11) (l1 := [some (.ref 27), none, none, none]) (st1 := []) rfl (fun hp1 => ?_) (fun hp1 => ?_)
  · have h := h.1 hp1
    refine gk_W_s 4 (pc1 := 19) (l1 := [some (.ref 27), some (.int 0), some (.int 0), none]) (st1 := []) rfl ?_
    exact h
  · have h := h.2 (Decidable.not_not.mp hp1)
    refine gk_W_s 5 (pc1 := 19) (l1 := [some (.ref 27), some (.int 1), some (.int 0), none]) (st1 := []) rfl ?_
    exact h
set_option maxRecDepth 8000 in
/-- GrammarDeskModel.isAsBefore()Z, at 19 -/
theorem sg_175_19 {d : Nat} {rr : List gk_S} {w w' : gk_Wd} {r : gk_Res} (hS : gk_Sh rr w) (x1 : Int32) (x2 : Int32)
    (h : (((w_i w 26 4) ≤ x2 → (fits .boolean (.int x1) = true ∧ r = .inl (some (.int x1)) ∧ w' = w)) ∧ (¬ ((w_i w 26 4) ≤ x2) → ((x1 = 0 → (fits .boolean (.int x1) = true ∧ r = .inl (some (.int x1)) ∧ w' = w)) ∧ (¬ (x1 = 0) → (gk_out x2 64 = false ∧ (gk_out x2 64 = false ∧ ((¬ ((w_a w 28).getD x2.toNatClampNeg 0) = ((w_a w 31).getD x2.toNatClampNeg 0) → gk_W none d 175 69 [some (.ref 27), some (.int 0), some (.int x2), some (.int 0)] [] w r w') ∧ (((w_a w 28).getD x2.toNatClampNeg 0) = ((w_a w 31).getD x2.toNatClampNeg 0) → (gk_out x2 64 = false ∧ (gk_out x2 64 = false ∧ ((¬ ((w_a w 29).getD x2.toNatClampNeg 0) = ((w_a w 32).getD x2.toNatClampNeg 0) → gk_W none d 175 69 [some (.ref 27), some (.int 0), some (.int x2), some (.int 0)] [] w r w') ∧ (((w_a w 29).getD x2.toNatClampNeg 0) = ((w_a w 32).getD x2.toNatClampNeg 0) → gk_W none d 175 69 [some (.ref 27), some (.int 1), some (.int x2), some (.int 0)] [] w r w'))))))))))))) :
    gk_W none d 175 19 [some (.ref 27), some (.int x1), some (.int x2), none] [] w r w' := by
  refine gk_W_s 2 (pc1 := 21) (l1 := [some (.ref 27), some (.int x1), some (.int x2), none]) (st1 := [.ref 27, .int x2]) rfl ?_
  refine gk_W_h (i := .getfield 111) 24 rfl rfl (h_gi (a := 26) (k := 4) hS ly_26 rfl) rfl ?_
  refine gk_W_b 1 ((w_i w 26 4) ≤ x2) (t := 126) (e := 27) (l1 := [some (.ref 27), some (.int x1), some (.int x2), none]) (st1 := []) rfl (fun hp1 => ?_) (fun hp1 => ?_)
  · have h := h.1 hp1
    refine gk_W_s 1 (pc1 := 127) (l1 := [some (.ref 27), some (.int x1), some (.int x2), none]) (st1 := [.int x1]) rfl ?_
    obtain ⟨hf, rfl, rfl⟩ := h
    exact gk_W_r (i := .ireturn) rfl rfl (gk_ret_f hf)
  · have h := h.2 hp1
    refine gk_W_b 2 (x1 = 0) (t := 126) (e := 31) (l1 := [some (.ref 27), some (.int x1), some (.int x2), none]) (st1 := []) rfl (fun hp2 => ?_) (fun hp2 => ?_)
    · have h := h.1 hp2
      refine gk_W_s 1 (pc1 := 127) (l1 := [some (.ref 27), some (.int x1), some (.int x2), none]) (st1 := [.int x1]) rfl ?_
      obtain ⟨hf, rfl, rfl⟩ := h
      exact gk_W_r (i := .ireturn) rfl rfl (gk_ret_f hf)
    · have h := h.2 hp2
      refine gk_W_s 1 (pc1 := 32) (l1 := [some (.ref 27), some (.int x1), some (.int x2), none]) (st1 := [.ref 27]) rfl ?_
      refine gk_W_h (i := .getfield 17) 35 rfl rfl (h_gr (a := 26) (k := 5) (m := 29) hS ly_26 rfl) rfl ?_
      refine gk_W_s 1 (pc1 := 36) (l1 := [some (.ref 27), some (.int x1), some (.int x2), none]) (st1 := [.int x2, .ref 29]) rfl ?_
      obtain ⟨hb3, h⟩ := h
      refine gk_W_h (i := .iaload) 37 rfl rfl (h_al (a := 28) (scr := none) hS ly_28 hb3) rfl ?_
      refine gk_W_s 1 (pc1 := 38) (l1 := [some (.ref 27), some (.int x1), some (.int x2), none]) (st1 := [.ref 27, .int ((w_a w 28).getD x2.toNatClampNeg 0)]) rfl ?_
      refine gk_W_h (i := .getfield 27) 41 rfl rfl (h_gr (a := 26) (k := 9) (m := 32) hS ly_26 rfl) rfl ?_
      refine gk_W_s 1 (pc1 := 42) (l1 := [some (.ref 27), some (.int x1), some (.int x2), none]) (st1 := [.int x2, .ref 32, .int ((w_a w 28).getD x2.toNatClampNeg 0)]) rfl ?_
      obtain ⟨hb4, h⟩ := h
      refine gk_W_h (i := .iaload) 43 rfl rfl (h_al (a := 31) (scr := none) hS ly_31 hb4) rfl ?_
      refine gk_W_b 1 (¬ ((w_a w 28).getD x2.toNatClampNeg 0) = ((w_a w 31).getD x2.toNatClampNeg 0)) (t := 65) (e := 46) (l1 := [some (.ref 27), some (.int x1), some (.int x2), none]) (st1 := []) rfl (fun hp5 => ?_) (fun hp5 => ?_)
      · have h := h.1 hp5
        refine gk_W_s 4 (pc1 := 69) (l1 := [some (.ref 27), some (.int 0), some (.int x2), some (.int 0)]) (st1 := []) rfl ?_
        exact h
      · have h := h.2 (Decidable.not_not.mp hp5)
        refine gk_W_s 1 (pc1 := 47) (l1 := [some (.ref 27), some (.int x1), some (.int x2), none]) (st1 := [.ref 27]) rfl ?_
        refine gk_W_h (i := .getfield 21) 50 rfl rfl (h_gr (a := 26) (k := 6) (m := 30) hS ly_26 rfl) rfl ?_
        refine gk_W_s 1 (pc1 := 51) (l1 := [some (.ref 27), some (.int x1), some (.int x2), none]) (st1 := [.int x2, .ref 30]) rfl ?_
        obtain ⟨hb6, h⟩ := h
        refine gk_W_h (i := .iaload) 52 rfl rfl (h_al (a := 29) (scr := none) hS ly_29 hb6) rfl ?_
        refine gk_W_s 1 (pc1 := 53) (l1 := [some (.ref 27), some (.int x1), some (.int x2), none]) (st1 := [.ref 27, .int ((w_a w 29).getD x2.toNatClampNeg 0)]) rfl ?_
        refine gk_W_h (i := .getfield 30) 56 rfl rfl (h_gr (a := 26) (k := 10) (m := 33) hS ly_26 rfl) rfl ?_
        refine gk_W_s 1 (pc1 := 57) (l1 := [some (.ref 27), some (.int x1), some (.int x2), none]) (st1 := [.int x2, .ref 33, .int ((w_a w 29).getD x2.toNatClampNeg 0)]) rfl ?_
        obtain ⟨hb7, h⟩ := h
        refine gk_W_h (i := .iaload) 58 rfl rfl (h_al (a := 32) (scr := none) hS ly_32 hb7) rfl ?_
        refine gk_W_b 1 (¬ ((w_a w 29).getD x2.toNatClampNeg 0) = ((w_a w 32).getD x2.toNatClampNeg 0)) (t := 65) (e := 61) (l1 := [some (.ref 27), some (.int x1), some (.int x2), none]) (st1 := []) rfl (fun hp8 => ?_) (fun hp8 => ?_)
        · have h := h.1 hp8
          refine gk_W_s 4 (pc1 := 69) (l1 := [some (.ref 27), some (.int 0), some (.int x2), some (.int 0)]) (st1 := []) rfl ?_
          exact h
        · have h := h.2 (Decidable.not_not.mp hp8)
          refine gk_W_s 5 (pc1 := 69) (l1 := [some (.ref 27), some (.int 1), some (.int x2), some (.int 0)]) (st1 := []) rfl ?_
          exact h
set_option maxRecDepth 8000 in
/-- GrammarDeskModel.isAsBefore()Z, at 69 -/
theorem sg_175_69 {d : Nat} {rr : List gk_S} {w w' : gk_Wd} {r : gk_Res} (hS : gk_Sh rr w) (x1 : Int32) (x2 : Int32) (x3 : Int32)
    (h : (gk_out x2 64 = false ∧ ((((w_a w 29).getD x2.toNatClampNeg 0) ≤ x3 → gk_W none d 175 19 [some (.ref 27), some (.int x1), some (.int (x2 + 1)), none] [] w r w') ∧ (¬ (((w_a w 29).getD x2.toNatClampNeg 0) ≤ x3) → ((x1 = 0 → gk_W none d 175 19 [some (.ref 27), some (.int x1), some (.int (x2 + 1)), none] [] w r w') ∧ (¬ (x1 = 0) → (gk_out ((10 * x2) + x3) 640 = false ∧ (gk_out ((10 * x2) + x3) 640 = false ∧ ((¬ ((w_a w 30).getD ((10 * x2) + x3).toNatClampNeg 0) = ((w_a w 33).getD ((10 * x2) + x3).toNatClampNeg 0) → gk_W none d 175 69 [some (.ref 27), some (.int 0), some (.int x2), some (.int (x3 + 1))] [] w r w') ∧ (((w_a w 30).getD ((10 * x2) + x3).toNatClampNeg 0) = ((w_a w 33).getD ((10 * x2) + x3).toNatClampNeg 0) → gk_W none d 175 69 [some (.ref 27), some (.int 1), some (.int x2), some (.int (x3 + 1))] [] w r w')))))))))) :
    gk_W none d 175 69 [some (.ref 27), some (.int x1), some (.int x2), some (.int x3)] [] w r w' := by
  refine gk_W_s 2 (pc1 := 71) (l1 := [some (.ref 27), some (.int x1), some (.int x2), some (.int x3)]) (st1 := [.ref 27, .int x3]) rfl ?_
  refine gk_W_h (i := .getfield 21) 74 rfl rfl (h_gr (a := 26) (k := 6) (m := 30) hS ly_26 rfl) rfl ?_
  refine gk_W_s 1 (pc1 := 75) (l1 := [some (.ref 27), some (.int x1), some (.int x2), some (.int x3)]) (st1 := [.int x2, .ref 30, .int x3]) rfl ?_
  obtain ⟨hb1, h⟩ := h
  refine gk_W_h (i := .iaload) 76 rfl rfl (h_al (a := 29) (scr := none) hS ly_29 hb1) rfl ?_
  refine gk_W_b 1 (((w_a w 29).getD x2.toNatClampNeg 0) ≤ x3) (t := 120) (e := 79) (l1 := [some (.ref 27), some (.int x1), some (.int x2), some (.int x3)]) (st1 := []) rfl (fun hp2 => ?_) (fun hp2 => ?_)
  · have h := h.1 hp2
    refine gk_W_s 2 (pc1 := 19) (l1 := [some (.ref 27), some (.int x1), some (.int (x2 + 1)), some (.int x3)]) (st1 := []) rfl ?_
    exact gk_W_le (gk_le_s (gk_le_s (gk_le_s (gk_le_n (gk_le_0))))) h
  · have h := h.2 hp2
    refine gk_W_b 2 (x1 = 0) (t := 120) (e := 83) (l1 := [some (.ref 27), some (.int x1), some (.int x2), some (.int x3)]) (st1 := []) rfl (fun hp3 => ?_) (fun hp3 => ?_)
    · have h := h.1 hp3
      refine gk_W_s 2 (pc1 := 19) (l1 := [some (.ref 27), some (.int x1), some (.int (x2 + 1)), some (.int x3)]) (st1 := []) rfl ?_
      exact gk_W_le (gk_le_s (gk_le_s (gk_le_s (gk_le_n (gk_le_0))))) h
    · have h := h.2 hp3
      refine gk_W_s 1 (pc1 := 84) (l1 := [some (.ref 27), some (.int x1), some (.int x2), some (.int x3)]) (st1 := [.ref 27]) rfl ?_
      refine gk_W_h (i := .getfield 24) 87 rfl rfl (h_gr (a := 26) (k := 7) (m := 31) hS ly_26 rfl) rfl ?_
      refine gk_W_s 5 (pc1 := 93) (l1 := [some (.ref 27), some (.int x1), some (.int x2), some (.int x3)]) (st1 := [.int ((10 * x2) + x3), .ref 31]) rfl ?_
      obtain ⟨hb4, h⟩ := h
      refine gk_W_h (i := .iaload) 94 rfl rfl (h_al (a := 30) (scr := none) hS ly_30 hb4) rfl ?_
      refine gk_W_s 1 (pc1 := 95) (l1 := [some (.ref 27), some (.int x1), some (.int x2), some (.int x3)]) (st1 := [.ref 27, .int ((w_a w 30).getD ((10 * x2) + x3).toNatClampNeg 0)]) rfl ?_
      refine gk_W_h (i := .getfield 33) 98 rfl rfl (h_gr (a := 26) (k := 11) (m := 34) hS ly_26 rfl) rfl ?_
      refine gk_W_s 5 (pc1 := 104) (l1 := [some (.ref 27), some (.int x1), some (.int x2), some (.int x3)]) (st1 := [.int ((10 * x2) + x3), .ref 34, .int ((w_a w 30).getD ((10 * x2) + x3).toNatClampNeg 0)]) rfl ?_
      obtain ⟨hb5, h⟩ := h
      refine gk_W_h (i := .iaload) 105 rfl rfl (h_al (a := 33) (scr := none) hS ly_33 hb5) rfl ?_
      refine gk_W_b 1 (¬ ((w_a w 30).getD ((10 * x2) + x3).toNatClampNeg 0) = ((w_a w 33).getD ((10 * x2) + x3).toNatClampNeg 0)) (t := 112) (e := 108) (l1 := [some (.ref 27), some (.int x1), some (.int x2), some (.int x3)]) (st1 := []) rfl (fun hp6 => ?_) (fun hp6 => ?_)
      · have h := h.1 hp6
        refine gk_W_s 4 (pc1 := 69) (l1 := [some (.ref 27), some (.int 0), some (.int x2), some (.int (x3 + 1))]) (st1 := []) rfl ?_
        exact h
      · have h := h.2 (Decidable.not_not.mp hp6)
        refine gk_W_s 5 (pc1 := 69) (l1 := [some (.ref 27), some (.int 1), some (.int x2), some (.int (x3 + 1))]) (st1 := []) rfl ?_
        exact h
set_option maxRecDepth 8000 in
/-- GrammarDeskModel.plain()I, at 0 -/
theorem sg_176_0 {d : Nat} {rr : List gk_S} {w w' : gk_Wd} {r : gk_Res} (hS : gk_Sh rr w)
    (h : (∃ (w2 : gk_Wd), gk_E d 167 [.ref 27] (w_si w 26 0 0) (.inl none) w2 ∧ gk_Sh rr w2 ∧ (∃ (w5 : gk_Wd), gk_E d 177 [.ref 27] w2 (.inl none) w5 ∧ gk_Sh rr w5 ∧ (∃ (v8 : Int32), ∃ (w9 : gk_Wd), gk_E d 172 [.ref 27] w5 (.inl (some (.int v8))) w9 ∧ gk_Sh rr w9 ∧ (r = .inl (some (.int v8)) ∧ w' = w9))))) :
    gk_W none (d + 1) 176 0 [some (.ref 27)] [] w r w' := by
  refine gk_W_s 2 (pc1 := 2) (l1 := [some (.ref 27)]) (st1 := [.int 0, .ref 27]) rfl ?_
  refine gk_W_h (i := .putfield 97) 5 rfl rfl (h_pi (a := 26) (k := 0) (x := 0) hS ly_26 rfl rfl) rfl ?_
  refine gk_W_s 1 (pc1 := 6) (l1 := [some (.ref 27)]) (st1 := [.ref 27]) rfl ?_
  obtain ⟨w2, hE1, hS3, h⟩ := h
  refine gk_W_c (i := .invokevirtual 201) [] 9 rfl rfl (c_v (a := 26) (sh_si hS ly_26 (k := 0) rfl 0) ly_26 rfl rfl (Nat.le_of_ble_eq_true rfl)) hE1 rfl rfl ?_
  refine gk_W_s 1 (pc1 := 10) (l1 := [some (.ref 27)]) (st1 := [.ref 27]) rfl ?_
  obtain ⟨w5, hE4, hS6, h⟩ := h
  refine gk_W_c (i := .invokevirtual 216) [] 13 rfl rfl (c_v (a := 26) hS3 ly_26 rfl rfl (Nat.le_of_ble_eq_true rfl)) hE4 rfl rfl ?_
  refine gk_W_s 1 (pc1 := 14) (l1 := [some (.ref 27)]) (st1 := [.ref 27]) rfl ?_
  obtain ⟨v8, w9, hE7, hS10, h⟩ := h
  refine gk_W_c (i := .invokevirtual 207) [.int v8] 17 rfl rfl (c_v (a := 26) hS6 ly_26 rfl rfl (Nat.le_of_ble_eq_true rfl)) hE7 rfl rfl ?_
  obtain ⟨rfl, rfl⟩ := h
  exact gk_W_r (i := .ireturn) rfl rfl rfl
set_option maxRecDepth 8000 in
/-- GrammarDeskModel.cleanUnits()V, at 0 -/
theorem sg_177_0 {d : Nat} {rr : List gk_S} {w w' : gk_Wd} {r : gk_Res} (hS : gk_Sh rr w)
    (h : (∃ (w2 : gk_Wd), gk_E (d + 1) 148 [.ref 27] w (.inl none) w2 ∧ gk_Sh rr w2 ∧ (∃ (w5 : gk_Wd), gk_E (d + 1) 178 [.ref 27] w2 (.inl none) w5 ∧ gk_Sh rr w5 ∧ gk_W none (d + 2) 177 10 [some (.ref 27), some (.int 0), none, none] [] w5 r w'))) :
    gk_W none (d + 2) 177 0 [some (.ref 27), none, none, none] [] w r w' := by
  refine gk_W_s 1 (pc1 := 1) (l1 := [some (.ref 27), none, none, none]) (st1 := [.ref 27]) rfl ?_
  obtain ⟨w2, hE1, hS3, h⟩ := h
  refine gk_W_c (i := .invokevirtual 121) [] 4 rfl rfl (c_v (a := 26) hS ly_26 rfl rfl (Nat.le_of_ble_eq_true rfl)) hE1 rfl rfl ?_
  refine gk_W_s 1 (pc1 := 5) (l1 := [some (.ref 27), none, none, none]) (st1 := [.ref 27]) rfl ?_
  obtain ⟨w5, hE4, hS6, h⟩ := h
  refine gk_W_c (i := .invokevirtual 213) [] 8 rfl rfl (c_v (a := 26) hS3 ly_26 rfl rfl (Nat.le_of_ble_eq_true rfl)) hE4 rfl rfl ?_
  refine gk_W_s 2 (pc1 := 10) (l1 := [some (.ref 27), some (.int 0), none, none]) (st1 := []) rfl ?_
  exact h
set_option maxRecDepth 8000 in
/-- GrammarDeskModel.cleanUnits()V, at 10 -/
theorem sg_177_10 {d : Nat} {rr : List gk_S} {w w' : gk_Wd} {r : gk_Res} (hS : gk_Sh rr w) (x1 : Int32)
    (h : ((16 ≤ x1 → gk_W none (d + 2) 177 122 [some (.ref 27), some (.int ((w_i w 26 4) - 1)), none, none] [] w r w') ∧ (¬ (16 ≤ x1) → ((¬ (w_i w 26 14) = 0 → gk_W none (d + 2) 177 122 [some (.ref 27), some (.int ((w_i w 26 4) - 1)), none, none] [] w r w') ∧ ((w_i w 26 14) = 0 → gk_W none (d + 2) 177 25 [some (.ref 27), some (.int x1), some (.int 0), none] [] w r w'))))) :
    gk_W none (d + 2) 177 10 [some (.ref 27), some (.int x1), none, none] [] w r w' := by
  refine gk_W_b 3 (16 ≤ x1) (t := 115) (e := 16) (l1 := [some (.ref 27), some (.int x1), none, none]) (st1 := []) rfl (fun hp1 => ?_) (fun hp1 => ?_)
  · have h := h.1 hp1
    refine gk_W_s 1 (pc1 := 116) (l1 := [some (.ref 27), some (.int x1), none, none]) (st1 := [.ref 27]) rfl ?_
    refine gk_W_h (i := .getfield 111) 119 rfl rfl (h_gi (a := 26) (k := 4) hS ly_26 rfl) rfl ?_
    refine gk_W_s 3 (pc1 := 122) (l1 := [some (.ref 27), some (.int ((w_i w 26 4) - 1)), none, none]) (st1 := []) rfl ?_
    exact h
  · have h := h.2 hp1
    refine gk_W_s 1 (pc1 := 17) (l1 := [some (.ref 27), some (.int x1), none, none]) (st1 := [.ref 27]) rfl ?_
    refine gk_W_h (i := .getfield 107) 20 rfl rfl (h_gi (a := 26) (k := 14) hS ly_26 rfl) rfl ?_
    refine gk_W_b 1 (¬ (w_i w 26 14) = 0) (t := 115) (e := 23) (l1 := [some (.ref 27), some (.int x1), none, none]) (st1 := []) rfl (fun hp2 => ?_) (fun hp2 => ?_)
    · have h := h.1 hp2
      refine gk_W_s 1 (pc1 := 116) (l1 := [some (.ref 27), some (.int x1), none, none]) (st1 := [.ref 27]) rfl ?_
      refine gk_W_h (i := .getfield 111) 119 rfl rfl (h_gi (a := 26) (k := 4) hS ly_26 rfl) rfl ?_
      refine gk_W_s 3 (pc1 := 122) (l1 := [some (.ref 27), some (.int ((w_i w 26 4) - 1)), none, none]) (st1 := []) rfl ?_
      exact h
    · have h := h.2 (Decidable.not_not.mp hp2)
      refine gk_W_s 2 (pc1 := 25) (l1 := [some (.ref 27), some (.int x1), some (.int 0), none]) (st1 := []) rfl ?_
      exact h
set_option maxRecDepth 8000 in
/-- GrammarDeskModel.cleanUnits()V, at 25 -/
theorem sg_177_25 {d : Nat} {rr : List gk_S} {w w' : gk_Wd} {r : gk_Res} (hS : gk_Sh rr w) (x1 : Int32) (x2 : Int32)
    (h : (((w_i w 26 8) ≤ x2 → gk_W none (d + 2) 177 10 [some (.ref 27), some (.int (x1 + 1)), none, none] [] w r w') ∧ (¬ ((w_i w 26 8) ≤ x2) → (gk_out x2 64 = false ∧ ((¬ ((w_a w 32).getD x2.toNatClampNeg 0) = 1 → (gk_out x2 64 = false ∧ (gk_out ((16 * x1) + ((w_a w 31).getD x2.toNatClampNeg 0)) 256 = false ∧ ((¬ ((w_a w 40).getD ((16 * x1) + ((w_a w 31).getD x2.toNatClampNeg 0)).toNatClampNeg 0) = 0 → (∃ (v8 : Int32), ∃ (w9 : gk_Wd), gk_E (d + 1) 171 [.ref 27, .int x2, .int 0] w (.inl (some (.int v8))) w9 ∧ gk_Sh rr w9 ∧ (∃ (v12 : Int32), ∃ (w13 : gk_Wd), gk_E (d + 1) 149 [.ref 27, .int x1] w9 (.inl (some (.int v12))) w13 ∧ gk_Sh rr w13 ∧ gk_W none (d + 2) 177 25 [some (.ref 27), some (.int x1), some (.int (x2 + 1)), none] [] w13 r w'))) ∧ (((w_a w 40).getD ((16 * x1) + ((w_a w 31).getD x2.toNatClampNeg 0)).toNatClampNeg 0) = 0 → gk_W none (d + 2) 177 25 [some (.ref 27), some (.int x1), some (.int (x2 + 1)), none] [] w r w'))))) ∧ (((w_a w 32).getD x2.toNatClampNeg 0) = 1 → (gk_out (10 * x2) 640 = false ∧ (((f_163 ((w_a w 33).getD (10 * x2).toNatClampNeg 0)) = 0 → (gk_out x2 64 = false ∧ (gk_out ((16 * x1) + ((w_a w 31).getD x2.toNatClampNeg 0)) 256 = false ∧ ((¬ ((w_a w 40).getD ((16 * x1) + ((w_a w 31).getD x2.toNatClampNeg 0)).toNatClampNeg 0) = 0 → (∃ (v21 : Int32), ∃ (w22 : gk_Wd), gk_E (d + 1) 171 [.ref 27, .int x2, .int 0] w (.inl (some (.int v21))) w22 ∧ gk_Sh rr w22 ∧ (∃ (v25 : Int32), ∃ (w26 : gk_Wd), gk_E (d + 1) 149 [.ref 27, .int x1] w22 (.inl (some (.int v25))) w26 ∧ gk_Sh rr w26 ∧ gk_W none (d + 2) 177 25 [some (.ref 27), some (.int x1), some (.int (x2 + 1)), none] [] w26 r w'))) ∧ (((w_a w 40).getD ((16 * x1) + ((w_a w 31).getD x2.toNatClampNeg 0)).toNatClampNeg 0) = 0 → gk_W none (d + 2) 177 25 [some (.ref 27), some (.int x1), some (.int (x2 + 1)), none] [] w r w'))))) ∧ (¬ ((f_163 ((w_a w 33).getD (10 * x2).toNatClampNeg 0)) = 0) → gk_W none (d + 2) 177 25 [some (.ref 27), some (.int x1), some (.int (x2 + 1)), none] [] w r w'))))))))) :
    gk_W none (d + 2) 177 25 [some (.ref 27), some (.int x1), some (.int x2), none] [] w r w' := by
  refine gk_W_s 2 (pc1 := 27) (l1 := [some (.ref 27), some (.int x1), some (.int x2), none]) (st1 := [.ref 27, .int x2]) rfl ?_
  refine gk_W_h (i := .getfield 124) 30 rfl rfl (h_gi (a := 26) (k := 8) hS ly_26 rfl) rfl ?_
  refine gk_W_b 1 ((w_i w 26 8) ≤ x2) (t := 109) (e := 33) (l1 := [some (.ref 27), some (.int x1), some (.int x2), none]) (st1 := []) rfl (fun hp1 => ?_) (fun hp1 => ?_)
  · have h := h.1 hp1
    refine gk_W_s 2 (pc1 := 10) (l1 := [some (.ref 27), some (.int (x1 + 1)), some (.int x2), none]) (st1 := []) rfl ?_
    exact gk_W_le (gk_le_s (gk_le_s (gk_le_n (gk_le_s (gk_le_0))))) h
  · have h := h.2 hp1
    refine gk_W_s 1 (pc1 := 34) (l1 := [some (.ref 27), some (.int x1), some (.int x2), none]) (st1 := [.ref 27]) rfl ?_
    refine gk_W_h (i := .getfield 30) 37 rfl rfl (h_gr (a := 26) (k := 10) (m := 33) hS ly_26 rfl) rfl ?_
    refine gk_W_s 1 (pc1 := 38) (l1 := [some (.ref 27), some (.int x1), some (.int x2), none]) (st1 := [.int x2, .ref 33]) rfl ?_
    obtain ⟨hb2, h⟩ := h
    refine gk_W_h (i := .iaload) 39 rfl rfl (h_al (a := 32) (scr := none) hS ly_32 hb2) rfl ?_
    refine gk_W_b 2 (¬ ((w_a w 32).getD x2.toNatClampNeg 0) = 1) (t := 62) (e := 43) (l1 := [some (.ref 27), some (.int x1), some (.int x2), none]) (st1 := []) rfl (fun hp3 => ?_) (fun hp3 => ?_)
    · have h := h.1 hp3
      refine gk_W_s 5 (pc1 := 69) (l1 := [some (.ref 27), some (.int x1), some (.int x2), some (.int 0)]) (st1 := [.ref 27]) rfl ?_
      refine gk_W_h (i := .getfield 55) 72 rfl rfl (h_gr (a := 26) (k := 21) (m := 41) hS ly_26 rfl) rfl ?_
      refine gk_W_s 4 (pc1 := 77) (l1 := [some (.ref 27), some (.int x1), some (.int x2), some (.int 0)]) (st1 := [.ref 27, .int (16 * x1), .ref 41]) rfl ?_
      refine gk_W_h (i := .getfield 27) 80 rfl rfl (h_gr (a := 26) (k := 9) (m := 32) hS ly_26 rfl) rfl ?_
      refine gk_W_s 1 (pc1 := 81) (l1 := [some (.ref 27), some (.int x1), some (.int x2), some (.int 0)]) (st1 := [.int x2, .ref 32, .int (16 * x1), .ref 41]) rfl ?_
      obtain ⟨hb4, h⟩ := h
      refine gk_W_h (i := .iaload) 82 rfl rfl (h_al (a := 31) (scr := none) hS ly_31 hb4) rfl ?_
      refine gk_W_s 1 (pc1 := 83) (l1 := [some (.ref 27), some (.int x1), some (.int x2), some (.int 0)]) (st1 := [.int ((16 * x1) + ((w_a w 31).getD x2.toNatClampNeg 0)), .ref 41]) rfl ?_
      obtain ⟨hb5, h⟩ := h
      refine gk_W_h (i := .baload) 84 rfl rfl (h_al (a := 40) (scr := none) hS ly_40 hb5) rfl ?_
      refine gk_W_b 1 (¬ ((w_a w 40).getD ((16 * x1) + ((w_a w 31).getD x2.toNatClampNeg 0)).toNatClampNeg 0) = 0) (t := 90) (e := 87) (l1 := [some (.ref 27), some (.int x1), some (.int x2), some (.int 0)]) (st1 := []) rfl (fun hp6 => ?_) (fun hp6 => ?_)
      · have h := h.1 hp6
        refine gk_W_s 3 (pc1 := 93) (l1 := [some (.ref 27), some (.int x1), some (.int x2), some (.int 0)]) (st1 := [.int 0, .int x2, .ref 27]) rfl ?_
        obtain ⟨v8, w9, hE7, hS10, h⟩ := h
        refine gk_W_c (i := .invokevirtual 189) [.int v8] 96 rfl rfl (c_v (a := 26) hS ly_26 rfl rfl (Nat.le_of_ble_eq_true rfl)) hE7 rfl rfl ?_
        refine gk_W_s 3 (pc1 := 99) (l1 := [some (.ref 27), some (.int x1), some (.int x2), some (.int 0)]) (st1 := [.int x1, .ref 27]) rfl ?_
        obtain ⟨v12, w13, hE11, hS14, h⟩ := h
        refine gk_W_c (i := .invokevirtual 155) [.int v12] 102 rfl rfl (c_v (a := 26) hS10 ly_26 rfl rfl (Nat.le_of_ble_eq_true rfl)) hE11 rfl rfl ?_
        refine gk_W_s 3 (pc1 := 25) (l1 := [some (.ref 27), some (.int x1), some (.int (x2 + 1)), some (.int 0)]) (st1 := []) rfl ?_
        exact gk_W_le (gk_le_s (gk_le_s (gk_le_s (gk_le_n (gk_le_0))))) h
      · have h := h.2 (Decidable.not_not.mp hp6)
        refine gk_W_s 3 (pc1 := 25) (l1 := [some (.ref 27), some (.int x1), some (.int (x2 + 1)), some (.int 0)]) (st1 := []) rfl ?_
        exact gk_W_le (gk_le_s (gk_le_s (gk_le_s (gk_le_n (gk_le_0))))) h
    · have h := h.2 (Decidable.not_not.mp hp3)
      refine gk_W_s 1 (pc1 := 44) (l1 := [some (.ref 27), some (.int x1), some (.int x2), none]) (st1 := [.ref 27]) rfl ?_
      refine gk_W_h (i := .getfield 33) 47 rfl rfl (h_gr (a := 26) (k := 11) (m := 34) hS ly_26 rfl) rfl ?_
      refine gk_W_s 3 (pc1 := 51) (l1 := [some (.ref 27), some (.int x1), some (.int x2), none]) (st1 := [.int (10 * x2), .ref 34]) rfl ?_
      obtain ⟨hb15, h⟩ := h
      refine gk_W_h (i := .iaload) 52 rfl rfl (h_al (a := 33) (scr := none) hS ly_33 hb15) rfl ?_
      refine gk_W_c (i := .invokestatic 166) [.int (f_163 ((w_a w 33).getD (10 * x2).toNatClampNeg 0))] 55 rfl rfl rfl (f_163_E ((w_a w 33).getD (10 * x2).toNatClampNeg 0)) rfl rfl ?_
      refine gk_W_b 1 ((f_163 ((w_a w 33).getD (10 * x2).toNatClampNeg 0)) = 0) (t := 62) (e := 58) (l1 := [some (.ref 27), some (.int x1), some (.int x2), none]) (st1 := []) rfl (fun hp16 => ?_) (fun hp16 => ?_)
      · have h := h.1 hp16
        refine gk_W_s 5 (pc1 := 69) (l1 := [some (.ref 27), some (.int x1), some (.int x2), some (.int 0)]) (st1 := [.ref 27]) rfl ?_
        refine gk_W_h (i := .getfield 55) 72 rfl rfl (h_gr (a := 26) (k := 21) (m := 41) hS ly_26 rfl) rfl ?_
        refine gk_W_s 4 (pc1 := 77) (l1 := [some (.ref 27), some (.int x1), some (.int x2), some (.int 0)]) (st1 := [.ref 27, .int (16 * x1), .ref 41]) rfl ?_
        refine gk_W_h (i := .getfield 27) 80 rfl rfl (h_gr (a := 26) (k := 9) (m := 32) hS ly_26 rfl) rfl ?_
        refine gk_W_s 1 (pc1 := 81) (l1 := [some (.ref 27), some (.int x1), some (.int x2), some (.int 0)]) (st1 := [.int x2, .ref 32, .int (16 * x1), .ref 41]) rfl ?_
        obtain ⟨hb17, h⟩ := h
        refine gk_W_h (i := .iaload) 82 rfl rfl (h_al (a := 31) (scr := none) hS ly_31 hb17) rfl ?_
        refine gk_W_s 1 (pc1 := 83) (l1 := [some (.ref 27), some (.int x1), some (.int x2), some (.int 0)]) (st1 := [.int ((16 * x1) + ((w_a w 31).getD x2.toNatClampNeg 0)), .ref 41]) rfl ?_
        obtain ⟨hb18, h⟩ := h
        refine gk_W_h (i := .baload) 84 rfl rfl (h_al (a := 40) (scr := none) hS ly_40 hb18) rfl ?_
        refine gk_W_b 1 (¬ ((w_a w 40).getD ((16 * x1) + ((w_a w 31).getD x2.toNatClampNeg 0)).toNatClampNeg 0) = 0) (t := 90) (e := 87) (l1 := [some (.ref 27), some (.int x1), some (.int x2), some (.int 0)]) (st1 := []) rfl (fun hp19 => ?_) (fun hp19 => ?_)
        · have h := h.1 hp19
          refine gk_W_s 3 (pc1 := 93) (l1 := [some (.ref 27), some (.int x1), some (.int x2), some (.int 0)]) (st1 := [.int 0, .int x2, .ref 27]) rfl ?_
          obtain ⟨v21, w22, hE20, hS23, h⟩ := h
          refine gk_W_c (i := .invokevirtual 189) [.int v21] 96 rfl rfl (c_v (a := 26) hS ly_26 rfl rfl (Nat.le_of_ble_eq_true rfl)) hE20 rfl rfl ?_
          refine gk_W_s 3 (pc1 := 99) (l1 := [some (.ref 27), some (.int x1), some (.int x2), some (.int 0)]) (st1 := [.int x1, .ref 27]) rfl ?_
          obtain ⟨v25, w26, hE24, hS27, h⟩ := h
          refine gk_W_c (i := .invokevirtual 155) [.int v25] 102 rfl rfl (c_v (a := 26) hS23 ly_26 rfl rfl (Nat.le_of_ble_eq_true rfl)) hE24 rfl rfl ?_
          refine gk_W_s 3 (pc1 := 25) (l1 := [some (.ref 27), some (.int x1), some (.int (x2 + 1)), some (.int 0)]) (st1 := []) rfl ?_
          exact gk_W_le (gk_le_s (gk_le_s (gk_le_s (gk_le_n (gk_le_0))))) h
        · have h := h.2 (Decidable.not_not.mp hp19)
          refine gk_W_s 3 (pc1 := 25) (l1 := [some (.ref 27), some (.int x1), some (.int (x2 + 1)), some (.int 0)]) (st1 := []) rfl ?_
          exact gk_W_le (gk_le_s (gk_le_s (gk_le_s (gk_le_n (gk_le_0))))) h
      · have h := h.2 hp16
        refine gk_W_s 7 (pc1 := 25) (l1 := [some (.ref 27), some (.int x1), some (.int (x2 + 1)), some (.int 1)]) (st1 := []) rfl ?_
        exact gk_W_le (gk_le_s (gk_le_s (gk_le_s (gk_le_n (gk_le_0))))) h
set_option maxRecDepth 8000 in
/-- GrammarDeskModel.cleanUnits()V, at 122 -/
theorem sg_177_122 {d : Nat} {rr : List gk_S} {w w' : gk_Wd} {r : gk_Res} (hS : gk_Sh rr w) (x1 : Int32)
    (h : ((x1 < 0 → (r = .inl none ∧ w' = w)) ∧ (¬ (x1 < 0) → ((gk_out x1 64 = false) ∧ (¬ (¬ ((w_a w 29).getD x1.toNatClampNeg 0) = 1) → (gk_out ((10 * x1) + 0) 640 = false)) ∧ (((f_179 w x1) = 0 → gk_W none (d + 2) 177 122 [some (.ref 27), some (.int (x1 + (-1))), none, none] [] w r w') ∧ (¬ ((f_179 w x1) = 0) → (∃ (w6 : gk_Wd), gk_E (d + 1) 155 [.ref 27, .int x1] w (.inl none) w6 ∧ gk_Sh rr w6 ∧ gk_W none (d + 2) 177 122 [some (.ref 27), some (.int (x1 + (-1))), none, none] [] w6 r w'))))))) :
    gk_W none (d + 2) 177 122 [some (.ref 27), some (.int x1), none, none] [] w r w' := by
  refine gk_W_b 2 (x1 < 0) (t := 145) (e := 126) (l1 := [some (.ref 27), some (.int x1), none, none]) (st1 := []) rfl (fun hp1 => ?_) (fun hp1 => ?_)
  · have h := h.1 hp1
    obtain ⟨rfl, rfl⟩ := h
    exact gk_W_r (i := .return_) rfl rfl rfl
  · have h := h.2 hp1
    refine gk_W_s 2 (pc1 := 128) (l1 := [some (.ref 27), some (.int x1), none, none]) (st1 := [.int x1, .ref 27]) rfl ?_
    obtain ⟨hb2, hb3, h⟩ := h
    refine gk_W_c (i := .invokevirtual 210) [.int (f_179 w x1)] 131 rfl rfl (c_v (a := 26) hS ly_26 rfl rfl (Nat.le_of_ble_eq_true rfl)) (f_179_E hS x1 hb2 hb3) rfl rfl ?_
    refine gk_W_b 1 ((f_179 w x1) = 0) (t := 139) (e := 134) (l1 := [some (.ref 27), some (.int x1), none, none]) (st1 := []) rfl (fun hp4 => ?_) (fun hp4 => ?_)
    · have h := h.1 hp4
      refine gk_W_s 2 (pc1 := 122) (l1 := [some (.ref 27), some (.int (x1 + (-1))), none, none]) (st1 := []) rfl ?_
      exact h
    · have h := h.2 hp4
      refine gk_W_s 2 (pc1 := 136) (l1 := [some (.ref 27), some (.int x1), none, none]) (st1 := [.int x1, .ref 27]) rfl ?_
      obtain ⟨w6, hE5, hS7, h⟩ := h
      refine gk_W_c (i := .invokevirtual 158) [] 139 rfl rfl (c_v (a := 26) hS ly_26 rfl rfl (Nat.le_of_ble_eq_true rfl)) hE5 rfl rfl ?_
      refine gk_W_s 2 (pc1 := 122) (l1 := [some (.ref 27), some (.int (x1 + (-1))), none, none]) (st1 := []) rfl ?_
      exact h
set_option maxRecDepth 8000 in
/-- GrammarDeskModel.findLeads()V, at 0 -/
theorem sg_178_0 {d : Nat} {rr : List gk_S} {w w' : gk_Wd} {r : gk_Res} (hS : gk_Sh rr w)
    (h : gk_W none (d + 2) 178 2 [some (.ref 27), some (.int 0), none, none] [] w r w') :
    gk_W none (d + 2) 178 0 [some (.ref 27), none, none, none] [] w r w' := by
  refine gk_W_s 2 (pc1 := 2) (l1 := [some (.ref 27), some (.int 0), none, none]) (st1 := []) rfl ?_
  exact h
set_option maxRecDepth 8000 in
/-- GrammarDeskModel.findLeads()V, at 2 -/
theorem sg_178_2 {d : Nat} {rr : List gk_S} {w w' : gk_Wd} {r : gk_Res} (hS : gk_Sh rr w) (x1 : Int32)
    (h : ((256 ≤ x1 → gk_W none (d + 2) 178 39 [some (.ref 27), some (.int 0), none, none] [] w r w') ∧ (¬ (256 ≤ x1) → ((¬ (x1 / 16) = (x1 - x1 / 16 * 16) → (gk_out x1 256 = false ∧ gk_W none (d + 2) 178 2 [some (.ref 27), some (.int (x1 + 1)), none, none] [] (w_sa w 40 ((w_a w 40).set x1.toNatClampNeg 0)) r w')) ∧ ((x1 / 16) = (x1 - x1 / 16 * 16) → (gk_out x1 256 = false ∧ gk_W none (d + 2) 178 2 [some (.ref 27), some (.int (x1 + 1)), none, none] [] (w_sa w 40 ((w_a w 40).set x1.toNatClampNeg 1)) r w')))))) :
    gk_W none (d + 2) 178 2 [some (.ref 27), some (.int x1), none, none] [] w r w' := by
  refine gk_W_b 3 (256 ≤ x1) (t := 37) (e := 9) (l1 := [some (.ref 27), some (.int x1), none, none]) (st1 := []) rfl (fun hp1 => ?_) (fun hp1 => ?_)
  · have h := h.1 hp1
    refine gk_W_s 2 (pc1 := 39) (l1 := [some (.ref 27), some (.int 0), none, none]) (st1 := []) rfl ?_
    exact h
  · have h := h.2 hp1
    refine gk_W_s 1 (pc1 := 10) (l1 := [some (.ref 27), some (.int x1), none, none]) (st1 := [.ref 27]) rfl ?_
    refine gk_W_h (i := .getfield 55) 13 rfl rfl (h_gr (a := 26) (k := 21) (m := 41) hS ly_26 rfl) rfl ?_
    refine gk_W_b 8 (¬ (x1 / 16) = (x1 - x1 / 16 * 16)) (t := 29) (e := 25) (l1 := [some (.ref 27), some (.int x1), none, none]) (st1 := [.int x1, .ref 41]) rfl (fun hp2 => ?_) (fun hp2 => ?_)
    · have h := h.1 hp2
      refine gk_W_s 1 (pc1 := 30) (l1 := [some (.ref 27), some (.int x1), none, none]) (st1 := [.int 0, .int x1, .ref 41]) rfl ?_
      obtain ⟨hb3, h⟩ := h
      refine gk_W_h (i := .bastore) 31 rfl rfl (h_as (a := 40) (t := 2) hS ly_40 hb3 rfl) rfl ?_
      refine gk_W_s 2 (pc1 := 2) (l1 := [some (.ref 27), some (.int (x1 + 1)), none, none]) (st1 := []) rfl ?_
      exact h
    · have h := h.2 (Decidable.not_not.mp hp2)
      refine gk_W_s 2 (pc1 := 30) (l1 := [some (.ref 27), some (.int x1), none, none]) (st1 := [.int 1, .int x1, .ref 41]) rfl ?_
      obtain ⟨hb4, h⟩ := h
      refine gk_W_h (i := .bastore) 31 rfl rfl (h_as (a := 40) (t := 2) hS ly_40 hb4 rfl) rfl ?_
      refine gk_W_s 2 (pc1 := 2) (l1 := [some (.ref 27), some (.int (x1 + 1)), none, none]) (st1 := []) rfl ?_
      exact h
set_option maxRecDepth 8000 in
/-- GrammarDeskModel.findLeads()V, at 39 -/
theorem sg_178_39 {d : Nat} {rr : List gk_S} {w w' : gk_Wd} {r : gk_Res} (hS : gk_Sh rr w) (x1 : Int32)
    (h : ((16 ≤ x1 → (r = .inl none ∧ w' = w)) ∧ (¬ (16 ≤ x1) → gk_W none (d + 2) 178 47 [some (.ref 27), some (.int x1), some (.int 0), none] [] w r w'))) :
    gk_W none (d + 2) 178 39 [some (.ref 27), some (.int x1), none, none] [] w r w' := by
  refine gk_W_b 3 (16 ≤ x1) (t := 128) (e := 45) (l1 := [some (.ref 27), some (.int x1), none, none]) (st1 := []) rfl (fun hp1 => ?_) (fun hp1 => ?_)
  · have h := h.1 hp1
    obtain ⟨rfl, rfl⟩ := h
    exact gk_W_r (i := .return_) rfl rfl rfl
  · have h := h.2 hp1
    refine gk_W_s 2 (pc1 := 47) (l1 := [some (.ref 27), some (.int x1), some (.int 0), none]) (st1 := []) rfl ?_
    exact h
set_option maxRecDepth 8000 in
/-- GrammarDeskModel.findLeads()V, at 47 -/
theorem sg_178_47 {d : Nat} {rr : List gk_S} {w w' : gk_Wd} {r : gk_Res} (hS : gk_Sh rr w) (x1 : Int32) (x2 : Int32)
    (h : (((w_i w 26 4) ≤ x2 → gk_W none (d + 2) 178 39 [some (.ref 27), some (.int (x1 + 1)), none, none] [] w r w') ∧ (¬ ((w_i w 26 4) ≤ x2) → ((gk_out x2 64 = false) ∧ (¬ (¬ ((w_a w 29).getD x2.toNatClampNeg 0) = 1) → (gk_out ((10 * x2) + 0) 640 = false)) ∧ ((¬ (f_179 w x2) = 0 → gk_W none (d + 2) 178 68 [some (.ref 27), some (.int x1), some (.int x2), some (.int 0)] [] w r w') ∧ ((f_179 w x2) = 0 → gk_W none (d + 2) 178 47 [some (.ref 27), some (.int x1), some (.int (x2 + 1)), none] [] w r w')))))) :
    gk_W none (d + 2) 178 47 [some (.ref 27), some (.int x1), some (.int x2), none] [] w r w' := by
  refine gk_W_s 2 (pc1 := 49) (l1 := [some (.ref 27), some (.int x1), some (.int x2), none]) (st1 := [.ref 27, .int x2]) rfl ?_
  refine gk_W_h (i := .getfield 111) 52 rfl rfl (h_gi (a := 26) (k := 4) hS ly_26 rfl) rfl ?_
  refine gk_W_b 1 ((w_i w 26 4) ≤ x2) (t := 122) (e := 55) (l1 := [some (.ref 27), some (.int x1), some (.int x2), none]) (st1 := []) rfl (fun hp1 => ?_) (fun hp1 => ?_)
  · have h := h.1 hp1
    refine gk_W_s 2 (pc1 := 39) (l1 := [some (.ref 27), some (.int (x1 + 1)), some (.int x2), none]) (st1 := []) rfl ?_
    exact gk_W_le (gk_le_s (gk_le_s (gk_le_n (gk_le_s (gk_le_0))))) h
  · have h := h.2 hp1
    refine gk_W_s 2 (pc1 := 57) (l1 := [some (.ref 27), some (.int x1), some (.int x2), none]) (st1 := [.int x2, .ref 27]) rfl ?_
    obtain ⟨hb2, hb3, h⟩ := h
    refine gk_W_c (i := .invokevirtual 210) [.int (f_179 w x2)] 60 rfl rfl (c_v (a := 26) hS ly_26 rfl rfl (Nat.le_of_ble_eq_true rfl)) (f_179_E hS x2 hb2 hb3) rfl rfl ?_
    refine gk_W_b 1 (¬ (f_179 w x2) = 0) (t := 66) (e := 63) (l1 := [some (.ref 27), some (.int x1), some (.int x2), none]) (st1 := []) rfl (fun hp4 => ?_) (fun hp4 => ?_)
    · have h := h.1 hp4
      refine gk_W_s 2 (pc1 := 68) (l1 := [some (.ref 27), some (.int x1), some (.int x2), some (.int 0)]) (st1 := []) rfl ?_
      exact h
    · have h := h.2 (Decidable.not_not.mp hp4)
      refine gk_W_s 3 (pc1 := 47) (l1 := [some (.ref 27), some (.int x1), some (.int (x2 + 1)), none]) (st1 := []) rfl ?_
      exact h
set_option maxRecDepth 8000 in
/-- GrammarDeskModel.findLeads()V, at 68 -/
theorem sg_178_68 {d : Nat} {rr : List gk_S} {w w' : gk_Wd} {r : gk_Res} (hS : gk_Sh rr w) (x1 : Int32) (x2 : Int32) (x3 : Int32)
    (h : ((16 ≤ x3 → gk_W none (d + 2) 178 47 [some (.ref 27), some (.int x1), some (.int (x2 + 1)), none] [] w r w') ∧ (¬ (16 ≤ x3) → (gk_out x2 64 = false ∧ (gk_out ((16 * x3) + ((w_a w 28).getD x2.toNatClampNeg 0)) 256 = false ∧ ((((w_a w 40).getD ((16 * x3) + ((w_a w 28).getD x2.toNatClampNeg 0)).toNatClampNeg 0) = 0 → gk_W none (d + 2) 178 68 [some (.ref 27), some (.int x1), some (.int x2), some (.int (x3 + 1))] [] w r w') ∧ (¬ (((w_a w 40).getD ((16 * x3) + ((w_a w 28).getD x2.toNatClampNeg 0)).toNatClampNeg 0) = 0) → ((gk_out ((10 * x2) + 0) 640 = false) ∧ (gk_out ((16 * x3) + (f_151 w x2 0)) 256 = false ∧ gk_W none (d + 2) 178 68 [some (.ref 27), some (.int x1), some (.int x2), some (.int (x3 + 1))] [] (w_sa w 40 ((w_a w 40).set ((16 * x3) + (f_151 w x2 0)).toNatClampNeg 1)) r w'))))))))) :
    gk_W none (d + 2) 178 68 [some (.ref 27), some (.int x1), some (.int x2), some (.int x3)] [] w r w' := by
  refine gk_W_b 3 (16 ≤ x3) (t := 116) (e := 74) (l1 := [some (.ref 27), some (.int x1), some (.int x2), some (.int x3)]) (st1 := []) rfl (fun hp1 => ?_) (fun hp1 => ?_)
  · have h := h.1 hp1
    refine gk_W_s 2 (pc1 := 47) (l1 := [some (.ref 27), some (.int x1), some (.int (x2 + 1)), some (.int x3)]) (st1 := []) rfl ?_
    exact gk_W_le (gk_le_s (gk_le_s (gk_le_s (gk_le_n (gk_le_0))))) h
  · have h := h.2 hp1
    refine gk_W_s 1 (pc1 := 75) (l1 := [some (.ref 27), some (.int x1), some (.int x2), some (.int x3)]) (st1 := [.ref 27]) rfl ?_
    refine gk_W_h (i := .getfield 55) 78 rfl rfl (h_gr (a := 26) (k := 21) (m := 41) hS ly_26 rfl) rfl ?_
    refine gk_W_s 4 (pc1 := 83) (l1 := [some (.ref 27), some (.int x1), some (.int x2), some (.int x3)]) (st1 := [.ref 27, .int (16 * x3), .ref 41]) rfl ?_
    refine gk_W_h (i := .getfield 17) 86 rfl rfl (h_gr (a := 26) (k := 5) (m := 29) hS ly_26 rfl) rfl ?_
    refine gk_W_s 1 (pc1 := 87) (l1 := [some (.ref 27), some (.int x1), some (.int x2), some (.int x3)]) (st1 := [.int x2, .ref 29, .int (16 * x3), .ref 41]) rfl ?_
    obtain ⟨hb2, h⟩ := h
    refine gk_W_h (i := .iaload) 88 rfl rfl (h_al (a := 28) (scr := none) hS ly_28 hb2) rfl ?_
    refine gk_W_s 1 (pc1 := 89) (l1 := [some (.ref 27), some (.int x1), some (.int x2), some (.int x3)]) (st1 := [.int ((16 * x3) + ((w_a w 28).getD x2.toNatClampNeg 0)), .ref 41]) rfl ?_
    obtain ⟨hb3, h⟩ := h
    refine gk_W_h (i := .baload) 90 rfl rfl (h_al (a := 40) (scr := none) hS ly_40 hb3) rfl ?_
    refine gk_W_b 1 (((w_a w 40).getD ((16 * x3) + ((w_a w 28).getD x2.toNatClampNeg 0)).toNatClampNeg 0) = 0) (t := 110) (e := 93) (l1 := [some (.ref 27), some (.int x1), some (.int x2), some (.int x3)]) (st1 := []) rfl (fun hp4 => ?_) (fun hp4 => ?_)
    · have h := h.1 hp4
      refine gk_W_s 2 (pc1 := 68) (l1 := [some (.ref 27), some (.int x1), some (.int x2), some (.int (x3 + 1))]) (st1 := []) rfl ?_
      exact h
    · have h := h.2 hp4
      refine gk_W_s 1 (pc1 := 94) (l1 := [some (.ref 27), some (.int x1), some (.int x2), some (.int x3)]) (st1 := [.ref 27]) rfl ?_
      refine gk_W_h (i := .getfield 55) 97 rfl rfl (h_gr (a := 26) (k := 21) (m := 41) hS ly_26 rfl) rfl ?_
      refine gk_W_s 6 (pc1 := 104) (l1 := [some (.ref 27), some (.int x1), some (.int x2), some (.int x3)]) (st1 := [.int 0, .int x2, .ref 27, .int (16 * x3), .ref 41]) rfl ?_
      obtain ⟨hb5, h⟩ := h
      refine gk_W_c (i := .invokevirtual 103) [.int (f_151 w x2 0), .int (16 * x3), .ref 41] 107 rfl rfl (c_v (a := 26) hS ly_26 rfl rfl (Nat.le_of_ble_eq_true rfl)) (f_151_E hS x2 0 hb5) rfl rfl ?_
      refine gk_W_s 2 (pc1 := 109) (l1 := [some (.ref 27), some (.int x1), some (.int x2), some (.int x3)]) (st1 := [.int 1, .int ((16 * x3) + (f_151 w x2 0)), .ref 41]) rfl ?_
      obtain ⟨hb6, h⟩ := h
      refine gk_W_h (i := .bastore) 110 rfl rfl (h_as (a := 40) (t := 2) hS ly_40 hb6 rfl) rfl ?_
      refine gk_W_s 2 (pc1 := 68) (l1 := [some (.ref 27), some (.int x1), some (.int x2), some (.int (x3 + 1))]) (st1 := []) rfl ?_
      exact h
set_option maxRecDepth 8000 in
/-- GrammarDeskModel.greibach()I, at 0 -/
theorem sg_180_0 {d : Nat} {rr : List gk_S} {w w' : gk_Wd} {r : gk_Res} (hS : gk_Sh rr w)
    (h : (∃ (w2 : gk_Wd), gk_E d 167 [.ref 27] (w_si w 26 0 0) (.inl none) w2 ∧ gk_Sh rr w2 ∧ (∃ (w5 : gk_Wd), gk_E d 181 [.ref 27] w2 (.inl none) w5 ∧ gk_Sh rr w5 ∧ (∃ (v8 : Int32), ∃ (w9 : gk_Wd), gk_E d 172 [.ref 27] w5 (.inl (some (.int v8))) w9 ∧ gk_Sh rr w9 ∧ (r = .inl (some (.int v8)) ∧ w' = w9))))) :
    gk_W none (d + 1) 180 0 [some (.ref 27)] [] w r w' := by
  refine gk_W_s 2 (pc1 := 2) (l1 := [some (.ref 27)]) (st1 := [.int 0, .ref 27]) rfl ?_
  refine gk_W_h (i := .putfield 97) 5 rfl rfl (h_pi (a := 26) (k := 0) (x := 0) hS ly_26 rfl rfl) rfl ?_
  refine gk_W_s 1 (pc1 := 6) (l1 := [some (.ref 27)]) (st1 := [.ref 27]) rfl ?_
  obtain ⟨w2, hE1, hS3, h⟩ := h
  refine gk_W_c (i := .invokevirtual 201) [] 9 rfl rfl (c_v (a := 26) (sh_si hS ly_26 (k := 0) rfl 0) ly_26 rfl rfl (Nat.le_of_ble_eq_true rfl)) hE1 rfl rfl ?_
  refine gk_W_s 1 (pc1 := 10) (l1 := [some (.ref 27)]) (st1 := [.ref 27]) rfl ?_
  obtain ⟨w5, hE4, hS6, h⟩ := h
  refine gk_W_c (i := .invokevirtual 243) [] 13 rfl rfl (c_v (a := 26) hS3 ly_26 rfl rfl (Nat.le_of_ble_eq_true rfl)) hE4 rfl rfl ?_
  refine gk_W_s 1 (pc1 := 14) (l1 := [some (.ref 27)]) (st1 := [.ref 27]) rfl ?_
  obtain ⟨v8, w9, hE7, hS10, h⟩ := h
  refine gk_W_c (i := .invokevirtual 207) [.int v8] 17 rfl rfl (c_v (a := 26) hS6 ly_26 rfl rfl (Nat.le_of_ble_eq_true rfl)) hE7 rfl rfl ?_
  obtain ⟨rfl, rfl⟩ := h
  exact gk_W_r (i := .ireturn) rfl rfl rfl
set_option maxRecDepth 8000 in
/-- GrammarDeskModel.makeForm()V, at 0 -/
theorem sg_181_0 {d : Nat} {rr : List gk_S} {w w' : gk_Wd} {r : gk_Res} (hS : gk_Sh rr w)
    (h : (∃ (w2 : gk_Wd), gk_E d 168 [.ref 27] w (.inl none) w2 ∧ gk_Sh rr w2 ∧ ((¬ (w_i w2 26 14) = 0 → (((w_i w2 26 14) = 0 → (∃ (v7 : Int32), ∃ (w8 : gk_Wd), gk_E d 161 [.ref 27] w2 (.inl (some (.int v7))) w8 ∧ gk_Sh rr w8 ∧ gk_W none (d + 1) 181 30 [some (.ref 27), some (.int 0), none] [] w8 r w')) ∧ (¬ ((w_i w2 26 14) = 0) → (r = .inl none ∧ w' = w2)))) ∧ ((w_i w2 26 14) = 0 → (∃ (w11 : gk_Wd), gk_E d 177 [.ref 27] w2 (.inl none) w11 ∧ gk_Sh rr w11 ∧ (((w_i w11 26 14) = 0 → (∃ (v15 : Int32), ∃ (w16 : gk_Wd), gk_E d 161 [.ref 27] w11 (.inl (some (.int v15))) w16 ∧ gk_Sh rr w16 ∧ gk_W none (d + 1) 181 30 [some (.ref 27), some (.int 0), none] [] w16 r w')) ∧ (¬ ((w_i w11 26 14) = 0) → (r = .inl none ∧ w' = w11)))))))) :
    gk_W none (d + 1) 181 0 [some (.ref 27), none, none] [] w r w' := by
  refine gk_W_s 1 (pc1 := 1) (l1 := [some (.ref 27), none, none]) (st1 := [.ref 27]) rfl ?_
  obtain ⟨w2, hE1, hS3, h⟩ := h
  refine gk_W_c (i := .invokevirtual 204) [] 4 rfl rfl (c_v (a := 26) hS ly_26 rfl rfl (Nat.le_of_ble_eq_true rfl)) hE1 rfl rfl ?_
  refine gk_W_s 1 (pc1 := 5) (l1 := [some (.ref 27), none, none]) (st1 := [.ref 27]) rfl ?_
  refine gk_W_h (i := .getfield 107) 8 rfl rfl (h_gi (a := 26) (k := 14) hS3 ly_26 rfl) rfl ?_
  refine gk_W_b 1 (¬ (w_i w2 26 14) = 0) (t := 15) (e := 11) (l1 := [some (.ref 27), none, none]) (st1 := []) rfl (fun hp4 => ?_) (fun hp4 => ?_)
  · have h := h.1 hp4
    refine gk_W_s 1 (pc1 := 16) (l1 := [some (.ref 27), none, none]) (st1 := [.ref 27]) rfl ?_
    refine gk_W_h (i := .getfield 107) 19 rfl rfl (h_gi (a := 26) (k := 14) hS3 ly_26 rfl) rfl ?_
    refine gk_W_b 1 ((w_i w2 26 14) = 0) (t := 23) (e := 22) (l1 := [some (.ref 27), none, none]) (st1 := []) rfl (fun hp5 => ?_) (fun hp5 => ?_)
    · have h := h.1 hp5
      refine gk_W_s 1 (pc1 := 24) (l1 := [some (.ref 27), none, none]) (st1 := [.ref 27]) rfl ?_
      obtain ⟨v7, w8, hE6, hS9, h⟩ := h
      refine gk_W_c (i := .invokevirtual 183) [.int v7] 27 rfl rfl (c_v (a := 26) hS3 ly_26 rfl rfl (Nat.le_of_ble_eq_true rfl)) hE6 rfl rfl ?_
      refine gk_W_s 3 (pc1 := 30) (l1 := [some (.ref 27), some (.int 0), none]) (st1 := []) rfl ?_
      exact h
    · have h := h.2 hp5
      obtain ⟨rfl, rfl⟩ := h
      exact gk_W_r (i := .return_) rfl rfl rfl
  · have h := h.2 (Decidable.not_not.mp hp4)
    refine gk_W_s 1 (pc1 := 12) (l1 := [some (.ref 27), none, none]) (st1 := [.ref 27]) rfl ?_
    obtain ⟨w11, hE10, hS12, h⟩ := h
    refine gk_W_c (i := .invokevirtual 216) [] 15 rfl rfl (c_v (a := 26) hS3 ly_26 rfl rfl (Nat.le_of_ble_eq_true rfl)) hE10 rfl rfl ?_
    refine gk_W_s 1 (pc1 := 16) (l1 := [some (.ref 27), none, none]) (st1 := [.ref 27]) rfl ?_
    refine gk_W_h (i := .getfield 107) 19 rfl rfl (h_gi (a := 26) (k := 14) hS12 ly_26 rfl) rfl ?_
    refine gk_W_b 1 ((w_i w11 26 14) = 0) (t := 23) (e := 22) (l1 := [some (.ref 27), none, none]) (st1 := []) rfl (fun hp13 => ?_) (fun hp13 => ?_)
    · have h := h.1 hp13
      refine gk_W_s 1 (pc1 := 24) (l1 := [some (.ref 27), none, none]) (st1 := [.ref 27]) rfl ?_
      obtain ⟨v15, w16, hE14, hS17, h⟩ := h
      refine gk_W_c (i := .invokevirtual 183) [.int v15] 27 rfl rfl (c_v (a := 26) hS12 ly_26 rfl rfl (Nat.le_of_ble_eq_true rfl)) hE14 rfl rfl ?_
      refine gk_W_s 3 (pc1 := 30) (l1 := [some (.ref 27), some (.int 0), none]) (st1 := []) rfl ?_
      exact h
    · have h := h.2 hp13
      obtain ⟨rfl, rfl⟩ := h
      exact gk_W_r (i := .return_) rfl rfl rfl
set_option maxRecDepth 8000 in
/-- GrammarDeskModel.makeForm()V, at 30 -/
theorem sg_181_30 {d : Nat} {rr : List gk_S} {w w' : gk_Wd} {r : gk_Res} (hS : gk_Sh rr w) (x1 : Int32)
    (h : ((16 ≤ x1 → gk_W none (d + 1) 181 51 [some (.ref 27), some (.int 0), none] [] w r w') ∧ (¬ (16 ≤ x1) → (gk_out x1 16 = false ∧ gk_W none (d + 1) 181 30 [some (.ref 27), some (.int (x1 + 1)), none] [] (w_sa w 35 ((w_a w 35).set x1.toNatClampNeg 0)) r w')))) :
    gk_W none (d + 1) 181 30 [some (.ref 27), some (.int x1), none] [] w r w' := by
  refine gk_W_b 3 (16 ≤ x1) (t := 49) (e := 36) (l1 := [some (.ref 27), some (.int x1), none]) (st1 := []) rfl (fun hp1 => ?_) (fun hp1 => ?_)
  · have h := h.1 hp1
    refine gk_W_s 2 (pc1 := 51) (l1 := [some (.ref 27), some (.int 0), none]) (st1 := []) rfl ?_
    exact h
  · have h := h.2 hp1
    refine gk_W_s 1 (pc1 := 37) (l1 := [some (.ref 27), some (.int x1), none]) (st1 := [.ref 27]) rfl ?_
    refine gk_W_h (i := .getfield 39) 40 rfl rfl (h_gr (a := 26) (k := 16) (m := 36) hS ly_26 rfl) rfl ?_
    refine gk_W_s 2 (pc1 := 42) (l1 := [some (.ref 27), some (.int x1), none]) (st1 := [.int 0, .int x1, .ref 36]) rfl ?_
    obtain ⟨hb2, h⟩ := h
    refine gk_W_h (i := .bastore) 43 rfl rfl (h_as (a := 35) (t := 2) hS ly_35 hb2 rfl) rfl ?_
    refine gk_W_s 2 (pc1 := 30) (l1 := [some (.ref 27), some (.int (x1 + 1)), none]) (st1 := []) rfl ?_
    exact h
set_option maxRecDepth 8000 in
/-- GrammarDeskModel.makeForm()V, at 51 -/
theorem sg_181_51 {d : Nat} {rr : List gk_S} {w w' : gk_Wd} {r : gk_Res} (hS : gk_Sh rr w) (x1 : Int32)
    (h : (((w_i w 26 4) ≤ x1 → gk_W none (d + 1) 181 79 [some (.ref 27), some (.int 0), none] [] w r w') ∧ (¬ ((w_i w 26 4) ≤ x1) → (gk_out x1 64 = false ∧ (gk_out ((w_a w 28).getD x1.toNatClampNeg 0) 16 = false ∧ gk_W none (d + 1) 181 51 [some (.ref 27), some (.int (x1 + 1)), none] [] (w_sa w 35 ((w_a w 35).set ((w_a w 28).getD x1.toNatClampNeg 0).toNatClampNeg 1)) r w'))))) :
    gk_W none (d + 1) 181 51 [some (.ref 27), some (.int x1), none] [] w r w' := by
  refine gk_W_s 2 (pc1 := 53) (l1 := [some (.ref 27), some (.int x1), none]) (st1 := [.ref 27, .int x1]) rfl ?_
  refine gk_W_h (i := .getfield 111) 56 rfl rfl (h_gi (a := 26) (k := 4) hS ly_26 rfl) rfl ?_
  refine gk_W_b 1 ((w_i w 26 4) ≤ x1) (t := 77) (e := 59) (l1 := [some (.ref 27), some (.int x1), none]) (st1 := []) rfl (fun hp1 => ?_) (fun hp1 => ?_)
  · have h := h.1 hp1
    refine gk_W_s 2 (pc1 := 79) (l1 := [some (.ref 27), some (.int 0), none]) (st1 := []) rfl ?_
    exact h
  · have h := h.2 hp1
    refine gk_W_s 1 (pc1 := 60) (l1 := [some (.ref 27), some (.int x1), none]) (st1 := [.ref 27]) rfl ?_
    refine gk_W_h (i := .getfield 39) 63 rfl rfl (h_gr (a := 26) (k := 16) (m := 36) hS ly_26 rfl) rfl ?_
    refine gk_W_s 1 (pc1 := 64) (l1 := [some (.ref 27), some (.int x1), none]) (st1 := [.ref 27, .ref 36]) rfl ?_
    refine gk_W_h (i := .getfield 17) 67 rfl rfl (h_gr (a := 26) (k := 5) (m := 29) hS ly_26 rfl) rfl ?_
    refine gk_W_s 1 (pc1 := 68) (l1 := [some (.ref 27), some (.int x1), none]) (st1 := [.int x1, .ref 29, .ref 36]) rfl ?_
    obtain ⟨hb2, h⟩ := h
    refine gk_W_h (i := .iaload) 69 rfl rfl (h_al (a := 28) (scr := none) hS ly_28 hb2) rfl ?_
    refine gk_W_s 1 (pc1 := 70) (l1 := [some (.ref 27), some (.int x1), none]) (st1 := [.int 1, .int ((w_a w 28).getD x1.toNatClampNeg 0), .ref 36]) rfl ?_
    obtain ⟨hb3, h⟩ := h
    refine gk_W_h (i := .bastore) 71 rfl rfl (h_as (a := 35) (t := 2) hS ly_35 hb3 rfl) rfl ?_
    refine gk_W_s 2 (pc1 := 51) (l1 := [some (.ref 27), some (.int (x1 + 1)), none]) (st1 := []) rfl ?_
    exact h
set_option maxRecDepth 8000 in
/-- GrammarDeskModel.makeForm()V, at 79 -/
theorem sg_181_79 {d : Nat} {rr : List gk_S} {w w' : gk_Wd} {r : gk_Res} (hS : gk_Sh rr w) (x1 : Int32)
    (h : ((16 ≤ x1 → (∃ (v3 : Int32), gk_E d 187 [.ref 27] w (.inl (some (.int v3))) w ∧ gk_W none (d + 1) 181 151 [some (.ref 27), some (.int v3), none] [] w r w')) ∧ (¬ (16 ≤ x1) → ((¬ (w_i w 26 14) = 0 → (∃ (v6 : Int32), gk_E d 187 [.ref 27] w (.inl (some (.int v6))) w ∧ gk_W none (d + 1) 181 151 [some (.ref 27), some (.int v6), none] [] w r w')) ∧ ((w_i w 26 14) = 0 → (gk_out x1 16 = false ∧ ((¬ ((w_a w 35).getD x1.toNatClampNeg 0) = 0 → (∃ (v10 : Int32), gk_E d 182 [.ref 27, .int x1] w (.inl (some (.int v10))) w ∧ gk_W none (d + 1) 181 110 [some (.ref 27), some (.int x1), some (.int v10)] [] w r w')) ∧ (((w_a w 35).getD x1.toNatClampNeg 0) = 0 → gk_W none (d + 1) 181 79 [some (.ref 27), some (.int (x1 + 1)), none] [] w r w')))))))) :
    gk_W none (d + 1) 181 79 [some (.ref 27), some (.int x1), none] [] w r w' := by
  refine gk_W_b 3 (16 ≤ x1) (t := 146) (e := 85) (l1 := [some (.ref 27), some (.int x1), none]) (st1 := []) rfl (fun hp1 => ?_) (fun hp1 => ?_)
  · have h := h.1 hp1
    refine gk_W_s 1 (pc1 := 147) (l1 := [some (.ref 27), some (.int x1), none]) (st1 := [.ref 27]) rfl ?_
    obtain ⟨v3, hE2, h⟩ := h
    refine gk_W_c (i := .invokevirtual 237) [.int v3] 150 rfl rfl (c_v (a := 26) hS ly_26 rfl rfl (Nat.le_of_ble_eq_true rfl)) hE2 rfl rfl ?_
    refine gk_W_s 1 (pc1 := 151) (l1 := [some (.ref 27), some (.int v3), none]) (st1 := []) rfl ?_
    exact h
  · have h := h.2 hp1
    refine gk_W_s 1 (pc1 := 86) (l1 := [some (.ref 27), some (.int x1), none]) (st1 := [.ref 27]) rfl ?_
    refine gk_W_h (i := .getfield 107) 89 rfl rfl (h_gi (a := 26) (k := 14) hS ly_26 rfl) rfl ?_
    refine gk_W_b 1 (¬ (w_i w 26 14) = 0) (t := 146) (e := 92) (l1 := [some (.ref 27), some (.int x1), none]) (st1 := []) rfl (fun hp4 => ?_) (fun hp4 => ?_)
    · have h := h.1 hp4
      refine gk_W_s 1 (pc1 := 147) (l1 := [some (.ref 27), some (.int x1), none]) (st1 := [.ref 27]) rfl ?_
      obtain ⟨v6, hE5, h⟩ := h
      refine gk_W_c (i := .invokevirtual 237) [.int v6] 150 rfl rfl (c_v (a := 26) hS ly_26 rfl rfl (Nat.le_of_ble_eq_true rfl)) hE5 rfl rfl ?_
      refine gk_W_s 1 (pc1 := 151) (l1 := [some (.ref 27), some (.int v6), none]) (st1 := []) rfl ?_
      exact h
    · have h := h.2 (Decidable.not_not.mp hp4)
      refine gk_W_s 1 (pc1 := 93) (l1 := [some (.ref 27), some (.int x1), none]) (st1 := [.ref 27]) rfl ?_
      refine gk_W_h (i := .getfield 39) 96 rfl rfl (h_gr (a := 26) (k := 16) (m := 36) hS ly_26 rfl) rfl ?_
      refine gk_W_s 1 (pc1 := 97) (l1 := [some (.ref 27), some (.int x1), none]) (st1 := [.int x1, .ref 36]) rfl ?_
      obtain ⟨hb7, h⟩ := h
      refine gk_W_h (i := .baload) 98 rfl rfl (h_al (a := 35) (scr := none) hS ly_35 hb7) rfl ?_
      refine gk_W_b 1 (¬ ((w_a w 35).getD x1.toNatClampNeg 0) = 0) (t := 104) (e := 101) (l1 := [some (.ref 27), some (.int x1), none]) (st1 := []) rfl (fun hp8 => ?_) (fun hp8 => ?_)
      · have h := h.1 hp8
        refine gk_W_s 2 (pc1 := 106) (l1 := [some (.ref 27), some (.int x1), none]) (st1 := [.int x1, .ref 27]) rfl ?_
        obtain ⟨v10, hE9, h⟩ := h
        refine gk_W_c (i := .invokevirtual 228) [.int v10] 109 rfl rfl (c_v (a := 26) hS ly_26 rfl rfl (Nat.le_of_ble_eq_true rfl)) hE9 rfl rfl ?_
        refine gk_W_s 1 (pc1 := 110) (l1 := [some (.ref 27), some (.int x1), some (.int v10)]) (st1 := []) rfl ?_
        exact h
      · have h := h.2 (Decidable.not_not.mp hp8)
        refine gk_W_s 3 (pc1 := 79) (l1 := [some (.ref 27), some (.int (x1 + 1)), none]) (st1 := []) rfl ?_
        exact h
set_option maxRecDepth 8000 in
/-- GrammarDeskModel.makeForm()V, at 110 -/
theorem sg_181_110 {d : Nat} {rr : List gk_S} {w w' : gk_Wd} {r : gk_Res} (hS : gk_Sh rr w) (x1 : Int32) (x2 : Int32)
    (h : ((x2 < 0 → (∃ (w3 : gk_Wd), gk_E d 184 [.ref 27, .int x1] w (.inl none) w3 ∧ gk_Sh rr w3 ∧ gk_W none (d + 1) 181 79 [some (.ref 27), some (.int (x1 + 1)), none] [] w3 r w')) ∧ (¬ (x2 < 0) → ((¬ (w_i w 26 14) = 0 → (∃ (w7 : gk_Wd), gk_E d 184 [.ref 27, .int x1] w (.inl none) w7 ∧ gk_Sh rr w7 ∧ gk_W none (d + 1) 181 79 [some (.ref 27), some (.int (x1 + 1)), none] [] w7 r w')) ∧ ((w_i w 26 14) = 0 → (∃ (w10 : gk_Wd), gk_E d 183 [.ref 27, .int x2] w (.inl none) w10 ∧ gk_Sh rr w10 ∧ (∃ (v13 : Int32), gk_E d 182 [.ref 27, .int x1] w10 (.inl (some (.int v13))) w10 ∧ gk_W none (d + 1) 181 110 [some (.ref 27), some (.int x1), some (.int v13)] [] w10 r w'))))))) :
    gk_W none (d + 1) 181 110 [some (.ref 27), some (.int x1), some (.int x2)] [] w r w' := by
  refine gk_W_b 2 (x2 < 0) (t := 135) (e := 114) (l1 := [some (.ref 27), some (.int x1), some (.int x2)]) (st1 := []) rfl (fun hp1 => ?_) (fun hp1 => ?_)
  · have h := h.1 hp1
    refine gk_W_s 2 (pc1 := 137) (l1 := [some (.ref 27), some (.int x1), some (.int x2)]) (st1 := [.int x1, .ref 27]) rfl ?_
    obtain ⟨w3, hE2, hS4, h⟩ := h
    refine gk_W_c (i := .invokevirtual 234) [] 140 rfl rfl (c_v (a := 26) hS ly_26 rfl rfl (Nat.le_of_ble_eq_true rfl)) hE2 rfl rfl ?_
    refine gk_W_s 2 (pc1 := 79) (l1 := [some (.ref 27), some (.int (x1 + 1)), some (.int x2)]) (st1 := []) rfl ?_
    exact gk_W_le (gk_le_s (gk_le_s (gk_le_n (gk_le_0)))) h
  · have h := h.2 hp1
    refine gk_W_s 1 (pc1 := 115) (l1 := [some (.ref 27), some (.int x1), some (.int x2)]) (st1 := [.ref 27]) rfl ?_
    refine gk_W_h (i := .getfield 107) 118 rfl rfl (h_gi (a := 26) (k := 14) hS ly_26 rfl) rfl ?_
    refine gk_W_b 1 (¬ (w_i w 26 14) = 0) (t := 135) (e := 121) (l1 := [some (.ref 27), some (.int x1), some (.int x2)]) (st1 := []) rfl (fun hp5 => ?_) (fun hp5 => ?_)
    · have h := h.1 hp5
      refine gk_W_s 2 (pc1 := 137) (l1 := [some (.ref 27), some (.int x1), some (.int x2)]) (st1 := [.int x1, .ref 27]) rfl ?_
      obtain ⟨w7, hE6, hS8, h⟩ := h
      refine gk_W_c (i := .invokevirtual 234) [] 140 rfl rfl (c_v (a := 26) hS ly_26 rfl rfl (Nat.le_of_ble_eq_true rfl)) hE6 rfl rfl ?_
      refine gk_W_s 2 (pc1 := 79) (l1 := [some (.ref 27), some (.int (x1 + 1)), some (.int x2)]) (st1 := []) rfl ?_
      exact gk_W_le (gk_le_s (gk_le_s (gk_le_n (gk_le_0)))) h
    · have h := h.2 (Decidable.not_not.mp hp5)
      refine gk_W_s 2 (pc1 := 123) (l1 := [some (.ref 27), some (.int x1), some (.int x2)]) (st1 := [.int x2, .ref 27]) rfl ?_
      obtain ⟨w10, hE9, hS11, h⟩ := h
      refine gk_W_c (i := .invokevirtual 231) [] 126 rfl rfl (c_v (a := 26) hS ly_26 rfl rfl (Nat.le_of_ble_eq_true rfl)) hE9 rfl rfl ?_
      refine gk_W_s 2 (pc1 := 128) (l1 := [some (.ref 27), some (.int x1), some (.int x2)]) (st1 := [.int x1, .ref 27]) rfl ?_
      obtain ⟨v13, hE12, h⟩ := h
      refine gk_W_c (i := .invokevirtual 228) [.int v13] 131 rfl rfl (c_v (a := 26) hS11 ly_26 rfl rfl (Nat.le_of_ble_eq_true rfl)) hE12 rfl rfl ?_
      refine gk_W_s 2 (pc1 := 110) (l1 := [some (.ref 27), some (.int x1), some (.int v13)]) (st1 := []) rfl ?_
      exact h
set_option maxRecDepth 8000 in
/-- GrammarDeskModel.makeForm()V, at 151 -/
theorem sg_181_151 {d : Nat} {rr : List gk_S} {w w' : gk_Wd} {r : gk_Res} (hS : gk_Sh rr w) (x1 : Int32)
    (h : ((x1 < 0 → gk_W none (d + 1) 181 178 [some (.ref 27), none, some (.int 16)] [] w r w') ∧ (¬ (x1 < 0) → ((¬ (w_i w 26 14) = 0 → gk_W none (d + 1) 181 178 [some (.ref 27), none, some (.int 16)] [] w r w') ∧ ((w_i w 26 14) = 0 → (∃ (w4 : gk_Wd), gk_E d 183 [.ref 27, .int x1] w (.inl none) w4 ∧ gk_Sh rr w4 ∧ (∃ (v7 : Int32), gk_E d 187 [.ref 27] w4 (.inl (some (.int v7))) w4 ∧ gk_W none (d + 1) 181 151 [some (.ref 27), some (.int v7), none] [] w4 r w'))))))) :
    gk_W none (d + 1) 181 151 [some (.ref 27), some (.int x1), none] [] w r w' := by
  refine gk_W_b 2 (x1 < 0) (t := 175) (e := 155) (l1 := [some (.ref 27), some (.int x1), none]) (st1 := []) rfl (fun hp1 => ?_) (fun hp1 => ?_)
  · have h := h.1 hp1
    refine gk_W_s 2 (pc1 := 178) (l1 := [some (.ref 27), some (.int x1), some (.int 16)]) (st1 := []) rfl ?_
    exact gk_W_le (gk_le_s (gk_le_n (gk_le_s (gk_le_0)))) h
  · have h := h.2 hp1
    refine gk_W_s 1 (pc1 := 156) (l1 := [some (.ref 27), some (.int x1), none]) (st1 := [.ref 27]) rfl ?_
    refine gk_W_h (i := .getfield 107) 159 rfl rfl (h_gi (a := 26) (k := 14) hS ly_26 rfl) rfl ?_
    refine gk_W_b 1 (¬ (w_i w 26 14) = 0) (t := 175) (e := 162) (l1 := [some (.ref 27), some (.int x1), none]) (st1 := []) rfl (fun hp2 => ?_) (fun hp2 => ?_)
    · have h := h.1 hp2
      refine gk_W_s 2 (pc1 := 178) (l1 := [some (.ref 27), some (.int x1), some (.int 16)]) (st1 := []) rfl ?_
      exact gk_W_le (gk_le_s (gk_le_n (gk_le_s (gk_le_0)))) h
    · have h := h.2 (Decidable.not_not.mp hp2)
      refine gk_W_s 2 (pc1 := 164) (l1 := [some (.ref 27), some (.int x1), none]) (st1 := [.int x1, .ref 27]) rfl ?_
      obtain ⟨w4, hE3, hS5, h⟩ := h
      refine gk_W_c (i := .invokevirtual 231) [] 167 rfl rfl (c_v (a := 26) hS ly_26 rfl rfl (Nat.le_of_ble_eq_true rfl)) hE3 rfl rfl ?_
      refine gk_W_s 1 (pc1 := 168) (l1 := [some (.ref 27), some (.int x1), none]) (st1 := [.ref 27]) rfl ?_
      obtain ⟨v7, hE6, h⟩ := h
      refine gk_W_c (i := .invokevirtual 237) [.int v7] 171 rfl rfl (c_v (a := 26) hS5 ly_26 rfl rfl (Nat.le_of_ble_eq_true rfl)) hE6 rfl rfl ?_
      refine gk_W_s 2 (pc1 := 151) (l1 := [some (.ref 27), some (.int v7), none]) (st1 := []) rfl ?_
      exact h
set_option maxRecDepth 8000 in
/-- GrammarDeskModel.makeForm()V, at 178 -/
theorem sg_181_178 {d : Nat} {rr : List gk_S} {w w' : gk_Wd} {r : gk_Res} (hS : gk_Sh rr w) (x2 : Int32)
    (h : ((22 ≤ x2 → (r = .inl none ∧ w' = w)) ∧ (¬ (22 ≤ x2) → (∃ (w3 : gk_Wd), gk_E d 188 [.ref 27, .int x2] w (.inl none) w3 ∧ gk_Sh rr w3 ∧ gk_W none (d + 1) 181 178 [some (.ref 27), none, some (.int (x2 + 1))] [] w3 r w')))) :
    gk_W none (d + 1) 181 178 [some (.ref 27), none, some (.int x2)] [] w r w' := by
  refine gk_W_b 3 (22 ≤ x2) (t := 195) (e := 184) (l1 := [some (.ref 27), none, some (.int x2)]) (st1 := []) rfl (fun hp1 => ?_) (fun hp1 => ?_)
  · have h := h.1 hp1
    obtain ⟨rfl, rfl⟩ := h
    exact gk_W_r (i := .return_) rfl rfl rfl
  · have h := h.2 hp1
    refine gk_W_s 2 (pc1 := 186) (l1 := [some (.ref 27), none, some (.int x2)]) (st1 := [.int x2, .ref 27]) rfl ?_
    obtain ⟨w3, hE2, hS4, h⟩ := h
    refine gk_W_c (i := .invokevirtual 240) [] 189 rfl rfl (c_v (a := 26) hS ly_26 rfl rfl (Nat.le_of_ble_eq_true rfl)) hE2 rfl rfl ?_
    refine gk_W_s 2 (pc1 := 178) (l1 := [some (.ref 27), none, some (.int (x2 + 1))]) (st1 := []) rfl ?_
    exact h
set_option maxRecDepth 8000 in
/-- GrammarDeskModel.findBefore(I)I, at 0 -/
theorem sg_182_0 {d : Nat} {rr : List gk_S} {w w' : gk_Wd} {r : gk_Res} (hS : gk_Sh rr w) (x1 : Int32)
    (h : gk_W none (d + 1) 182 2 [some (.ref 27), some (.int x1), some (.int 0)] [] w r w') :
    gk_W none (d + 1) 182 0 [some (.ref 27), some (.int x1), none] [] w r w' := by
  refine gk_W_s 2 (pc1 := 2) (l1 := [some (.ref 27), some (.int x1), some (.int 0)]) (st1 := []) rfl ?_
  exact h
set_option maxRecDepth 8000 in
/-- GrammarDeskModel.findBefore(I)I, at 2 -/
theorem sg_182_2 {d : Nat} {rr : List gk_S} {w w' : gk_Wd} {r : gk_Res} (hS : gk_Sh rr w) (x1 : Int32) (x2 : Int32)
    (h : (((w_i w 26 4) ≤ x2 → (r = .inl (some (.int ((-1)))) ∧ w' = w)) ∧ (¬ ((w_i w 26 4) ≤ x2) → (gk_out x2 64 = false ∧ ((¬ ((w_a w 28).getD x2.toNatClampNeg 0) = x1 → gk_W none (d + 1) 182 2 [some (.ref 27), some (.int x1), some (.int (x2 + 1))] [] w r w') ∧ (((w_a w 28).getD x2.toNatClampNeg 0) = x1 → (gk_out x2 64 = false ∧ ((((w_a w 29).getD x2.toNatClampNeg 0) ≤ 0 → gk_W none (d + 1) 182 2 [some (.ref 27), some (.int x1), some (.int (x2 + 1))] [] w r w') ∧ (¬ (((w_a w 29).getD x2.toNatClampNeg 0) ≤ 0) → ((gk_out ((10 * x2) + 0) 640 = false) ∧ ((x1 ≤ (f_151 w x2 0) → gk_W none (d + 1) 182 2 [some (.ref 27), some (.int x1), some (.int (x2 + 1))] [] w r w') ∧ (¬ (x1 ≤ (f_151 w x2 0)) → (r = .inl (some (.int x2)) ∧ w' = w))))))))))))) :
    gk_W none (d + 1) 182 2 [some (.ref 27), some (.int x1), some (.int x2)] [] w r w' := by
  refine gk_W_s 2 (pc1 := 4) (l1 := [some (.ref 27), some (.int x1), some (.int x2)]) (st1 := [.ref 27, .int x2]) rfl ?_
  refine gk_W_h (i := .getfield 111) 7 rfl rfl (h_gi (a := 26) (k := 4) hS ly_26 rfl) rfl ?_
  refine gk_W_b 1 ((w_i w 26 4) ≤ x2) (t := 47) (e := 10) (l1 := [some (.ref 27), some (.int x1), some (.int x2)]) (st1 := []) rfl (fun hp1 => ?_) (fun hp1 => ?_)
  · have h := h.1 hp1
    refine gk_W_s 1 (pc1 := 48) (l1 := [some (.ref 27), some (.int x1), some (.int x2)]) (st1 := [.int ((-1))]) rfl ?_
    obtain ⟨rfl, rfl⟩ := h
    exact gk_W_r (i := .ireturn) rfl rfl rfl
  · have h := h.2 hp1
    refine gk_W_s 1 (pc1 := 11) (l1 := [some (.ref 27), some (.int x1), some (.int x2)]) (st1 := [.ref 27]) rfl ?_
    refine gk_W_h (i := .getfield 17) 14 rfl rfl (h_gr (a := 26) (k := 5) (m := 29) hS ly_26 rfl) rfl ?_
    refine gk_W_s 1 (pc1 := 15) (l1 := [some (.ref 27), some (.int x1), some (.int x2)]) (st1 := [.int x2, .ref 29]) rfl ?_
    obtain ⟨hb2, h⟩ := h
    refine gk_W_h (i := .iaload) 16 rfl rfl (h_al (a := 28) (scr := none) hS ly_28 hb2) rfl ?_
    refine gk_W_b 2 (¬ ((w_a w 28).getD x2.toNatClampNeg 0) = x1) (t := 41) (e := 20) (l1 := [some (.ref 27), some (.int x1), some (.int x2)]) (st1 := []) rfl (fun hp3 => ?_) (fun hp3 => ?_)
    · have h := h.1 hp3
      refine gk_W_s 2 (pc1 := 2) (l1 := [some (.ref 27), some (.int x1), some (.int (x2 + 1))]) (st1 := []) rfl ?_
      exact h
    · have h := h.2 (Decidable.not_not.mp hp3)
      refine gk_W_s 1 (pc1 := 21) (l1 := [some (.ref 27), some (.int x1), some (.int x2)]) (st1 := [.ref 27]) rfl ?_
      refine gk_W_h (i := .getfield 21) 24 rfl rfl (h_gr (a := 26) (k := 6) (m := 30) hS ly_26 rfl) rfl ?_
      refine gk_W_s 1 (pc1 := 25) (l1 := [some (.ref 27), some (.int x1), some (.int x2)]) (st1 := [.int x2, .ref 30]) rfl ?_
      obtain ⟨hb4, h⟩ := h
      refine gk_W_h (i := .iaload) 26 rfl rfl (h_al (a := 29) (scr := none) hS ly_29 hb4) rfl ?_
      refine gk_W_b 1 (((w_a w 29).getD x2.toNatClampNeg 0) ≤ 0) (t := 41) (e := 29) (l1 := [some (.ref 27), some (.int x1), some (.int x2)]) (st1 := []) rfl (fun hp5 => ?_) (fun hp5 => ?_)
      · have h := h.1 hp5
        refine gk_W_s 2 (pc1 := 2) (l1 := [some (.ref 27), some (.int x1), some (.int (x2 + 1))]) (st1 := []) rfl ?_
        exact h
      · have h := h.2 hp5
        refine gk_W_s 3 (pc1 := 32) (l1 := [some (.ref 27), some (.int x1), some (.int x2)]) (st1 := [.int 0, .int x2, .ref 27]) rfl ?_
        obtain ⟨hb6, h⟩ := h
        refine gk_W_c (i := .invokevirtual 103) [.int (f_151 w x2 0)] 35 rfl rfl (c_v (a := 26) hS ly_26 rfl rfl (Nat.le_of_ble_eq_true rfl)) (f_151_E hS x2 0 hb6) rfl rfl ?_
        refine gk_W_b 2 (x1 ≤ (f_151 w x2 0)) (t := 41) (e := 39) (l1 := [some (.ref 27), some (.int x1), some (.int x2)]) (st1 := []) rfl (fun hp7 => ?_) (fun hp7 => ?_)
        · have h := h.1 hp7
          refine gk_W_s 2 (pc1 := 2) (l1 := [some (.ref 27), some (.int x1), some (.int (x2 + 1))]) (st1 := []) rfl ?_
          exact h
        · have h := h.2 hp7
          refine gk_W_s 1 (pc1 := 40) (l1 := [some (.ref 27), some (.int x1), some (.int x2)]) (st1 := [.int x2]) rfl ?_
          obtain ⟨rfl, rfl⟩ := h
          exact gk_W_r (i := .ireturn) rfl rfl rfl
set_option maxRecDepth 8000 in
/-- GrammarDeskModel.replace(I)V, at 0 -/
theorem sg_183_0 {d : Nat} {rr : List gk_S} {w w' : gk_Wd} {r : gk_Res} (hS : gk_Sh rr w) (x1 : Int32)
    (h : (((w_i (w_si w 26 15 ((w_i w 26 15) + 1)) 26 15) ≤ 300 → (((w_i (w_si w 26 15 ((w_i w 26 15) + 1)) 26 14) = 0 → (gk_out x1 64 = false ∧ ((gk_out ((10 * x1) + 0) 640 = false) ∧ (gk_out x1 64 = false ∧ gk_W none (d + 1) 183 60 [some (.ref 27), some (.int x1), some (.int ((w_a (w_si w 26 15 ((w_i w 26 15) + 1)) 28).getD x1.toNatClampNeg 0)), some (.int (f_151 (w_si w 26 15 ((w_i w 26 15) + 1)) x1 0)), some (.int (((w_a (w_si w 26 15 ((w_i w 26 15) + 1)) 29).getD x1.toNatClampNeg 0) - 1)), some (.int 0), none] [] (w_si w 26 15 ((w_i w 26 15) + 1)) r w')))) ∧ (¬ ((w_i (w_si w 26 15 ((w_i w 26 15) + 1)) 26 14) = 0) → (r = .inl none ∧ w' = w_si w 26 15 ((w_i w 26 15) + 1))))) ∧ (¬ ((w_i (w_si w 26 15 ((w_i w 26 15) + 1)) 26 15) ≤ 300) → (((w_i (w_si (w_si w 26 15 ((w_i w 26 15) + 1)) 26 14 1) 26 14) = 0 → (gk_out x1 64 = false ∧ ((gk_out ((10 * x1) + 0) 640 = false) ∧ (gk_out x1 64 = false ∧ gk_W none (d + 1) 183 60 [some (.ref 27), some (.int x1), some (.int ((w_a (w_si (w_si w 26 15 ((w_i w 26 15) + 1)) 26 14 1) 28).getD x1.toNatClampNeg 0)), some (.int (f_151 (w_si (w_si w 26 15 ((w_i w 26 15) + 1)) 26 14 1) x1 0)), some (.int (((w_a (w_si (w_si w 26 15 ((w_i w 26 15) + 1)) 26 14 1) 29).getD x1.toNatClampNeg 0) - 1)), some (.int 0), none] [] (w_si (w_si w 26 15 ((w_i w 26 15) + 1)) 26 14 1) r w')))) ∧ (¬ ((w_i (w_si (w_si w 26 15 ((w_i w 26 15) + 1)) 26 14 1) 26 14) = 0) → (r = .inl none ∧ w' = w_si (w_si w 26 15 ((w_i w 26 15) + 1)) 26 14 1)))))) :
    gk_W none (d + 1) 183 0 [some (.ref 27), some (.int x1), none, none, none, none, none] [] w r w' := by
  refine gk_W_s 2 (pc1 := 2) (l1 := [some (.ref 27), some (.int x1), none, none, none, none, none]) (st1 := [.ref 27, .ref 27]) rfl ?_
  refine gk_W_h (i := .getfield 195) 5 rfl rfl (h_gi (a := 26) (k := 15) hS ly_26 rfl) rfl ?_
  refine gk_W_s 2 (pc1 := 7) (l1 := [some (.ref 27), some (.int x1), none, none, none, none, none]) (st1 := [.int ((w_i w 26 15) + 1), .ref 27]) rfl ?_
  refine gk_W_h (i := .putfield 195) 10 rfl rfl (h_pi (a := 26) (k := 15) (x := (w_i w 26 15) + 1) hS ly_26 rfl rfl) rfl ?_
  refine gk_W_s 1 (pc1 := 11) (l1 := [some (.ref 27), some (.int x1), none, none, none, none, none]) (st1 := [.ref 27]) rfl ?_
  refine gk_W_h (i := .getfield 195) 14 rfl rfl (h_gi (a := 26) (k := 15) (sh_si hS ly_26 (k := 15) rfl ((w_i w 26 15) + 1)) ly_26 rfl) rfl ?_
  refine gk_W_b 2 ((w_i (w_si w 26 15 ((w_i w 26 15) + 1)) 26 15) ≤ 300) (t := 25) (e := 20) (l1 := [some (.ref 27), some (.int x1), none, none, none, none, none]) (st1 := []) rfl (fun hp1 => ?_) (fun hp1 => ?_)
  · have h := h.1 hp1
    refine gk_W_s 1 (pc1 := 26) (l1 := [some (.ref 27), some (.int x1), none, none, none, none, none]) (st1 := [.ref 27]) rfl ?_
    refine gk_W_h (i := .getfield 107) 29 rfl rfl (h_gi (a := 26) (k := 14) (sh_si hS ly_26 (k := 15) rfl ((w_i w 26 15) + 1)) ly_26 rfl) rfl ?_
    refine gk_W_b 1 ((w_i (w_si w 26 15 ((w_i w 26 15) + 1)) 26 14) = 0) (t := 33) (e := 32) (l1 := [some (.ref 27), some (.int x1), none, none, none, none, none]) (st1 := []) rfl (fun hp2 => ?_) (fun hp2 => ?_)
    · have h := h.1 hp2
      refine gk_W_s 1 (pc1 := 34) (l1 := [some (.ref 27), some (.int x1), none, none, none, none, none]) (st1 := [.ref 27]) rfl ?_
      refine gk_W_h (i := .getfield 17) 37 rfl rfl (h_gr (a := 26) (k := 5) (m := 29) (sh_si hS ly_26 (k := 15) rfl ((w_i w 26 15) + 1)) ly_26 rfl) rfl ?_
      refine gk_W_s 1 (pc1 := 38) (l1 := [some (.ref 27), some (.int x1), none, none, none, none, none]) (st1 := [.int x1, .ref 29]) rfl ?_
      obtain ⟨hb3, h⟩ := h
      refine gk_W_h (i := .iaload) 39 rfl rfl (h_al (a := 28) (scr := none) (sh_si hS ly_26 (k := 15) rfl ((w_i w 26 15) + 1)) ly_28 hb3) rfl ?_
      refine gk_W_s 4 (pc1 := 43) (l1 := [some (.ref 27), some (.int x1), some (.int ((w_a (w_si w 26 15 ((w_i w 26 15) + 1)) 28).getD x1.toNatClampNeg 0)), none, none, none, none]) (st1 := [.int 0, .int x1, .ref 27]) rfl ?_
      obtain ⟨hb4, h⟩ := h
      refine gk_W_c (i := .invokevirtual 103) [.int (f_151 (w_si w 26 15 ((w_i w 26 15) + 1)) x1 0)] 46 rfl rfl (c_v (a := 26) (sh_si hS ly_26 (k := 15) rfl ((w_i w 26 15) + 1)) ly_26 rfl rfl (Nat.le_of_ble_eq_true rfl)) (f_151_E (sh_si hS ly_26 (k := 15) rfl ((w_i w 26 15) + 1)) x1 0 hb4) rfl rfl ?_
      refine gk_W_s 2 (pc1 := 48) (l1 := [some (.ref 27), some (.int x1), some (.int ((w_a (w_si w 26 15 ((w_i w 26 15) + 1)) 28).getD x1.toNatClampNeg 0)), some (.int (f_151 (w_si w 26 15 ((w_i w 26 15) + 1)) x1 0)), none, none, none]) (st1 := [.ref 27]) rfl ?_
      refine gk_W_h (i := .getfield 21) 51 rfl rfl (h_gr (a := 26) (k := 6) (m := 30) (sh_si hS ly_26 (k := 15) rfl ((w_i w 26 15) + 1)) ly_26 rfl) rfl ?_
      refine gk_W_s 1 (pc1 := 52) (l1 := [some (.ref 27), some (.int x1), some (.int ((w_a (w_si w 26 15 ((w_i w 26 15) + 1)) 28).getD x1.toNatClampNeg 0)), some (.int (f_151 (w_si w 26 15 ((w_i w 26 15) + 1)) x1 0)), none, none, none]) (st1 := [.int x1, .ref 30]) rfl ?_
      obtain ⟨hb5, h⟩ := h
      refine gk_W_h (i := .iaload) 53 rfl rfl (h_al (a := 29) (scr := none) (sh_si hS ly_26 (k := 15) rfl ((w_i w 26 15) + 1)) ly_29 hb5) rfl ?_
      refine gk_W_s 5 (pc1 := 60) (l1 := [some (.ref 27), some (.int x1), some (.int ((w_a (w_si w 26 15 ((w_i w 26 15) + 1)) 28).getD x1.toNatClampNeg 0)), some (.int (f_151 (w_si w 26 15 ((w_i w 26 15) + 1)) x1 0)), some (.int (((w_a (w_si w 26 15 ((w_i w 26 15) + 1)) 29).getD x1.toNatClampNeg 0) - 1)), some (.int 0), none]) (st1 := []) rfl ?_
      exact h
    · have h := h.2 hp2
      obtain ⟨rfl, rfl⟩ := h
      exact gk_W_r (i := .return_) rfl rfl rfl
  · have h := h.2 hp1
    refine gk_W_s 2 (pc1 := 22) (l1 := [some (.ref 27), some (.int x1), none, none, none, none, none]) (st1 := [.int 1, .ref 27]) rfl ?_
    refine gk_W_h (i := .putfield 107) 25 rfl rfl (h_pi (a := 26) (k := 14) (x := 1) (sh_si hS ly_26 (k := 15) rfl ((w_i w 26 15) + 1)) ly_26 rfl rfl) rfl ?_
    refine gk_W_s 1 (pc1 := 26) (l1 := [some (.ref 27), some (.int x1), none, none, none, none, none]) (st1 := [.ref 27]) rfl ?_
    refine gk_W_h (i := .getfield 107) 29 rfl rfl (h_gi (a := 26) (k := 14) (sh_si (sh_si hS ly_26 (k := 15) rfl ((w_i w 26 15) + 1)) ly_26 (k := 14) rfl 1) ly_26 rfl) rfl ?_
    refine gk_W_b 1 ((w_i (w_si (w_si w 26 15 ((w_i w 26 15) + 1)) 26 14 1) 26 14) = 0) (t := 33) (e := 32) (l1 := [some (.ref 27), some (.int x1), none, none, none, none, none]) (st1 := []) rfl (fun hp6 => ?_) (fun hp6 => ?_)
    · have h := h.1 hp6
      refine gk_W_s 1 (pc1 := 34) (l1 := [some (.ref 27), some (.int x1), none, none, none, none, none]) (st1 := [.ref 27]) rfl ?_
      refine gk_W_h (i := .getfield 17) 37 rfl rfl (h_gr (a := 26) (k := 5) (m := 29) (sh_si (sh_si hS ly_26 (k := 15) rfl ((w_i w 26 15) + 1)) ly_26 (k := 14) rfl 1) ly_26 rfl) rfl ?_
      refine gk_W_s 1 (pc1 := 38) (l1 := [some (.ref 27), some (.int x1), none, none, none, none, none]) (st1 := [.int x1, .ref 29]) rfl ?_
      obtain ⟨hb7, h⟩ := h
      refine gk_W_h (i := .iaload) 39 rfl rfl (h_al (a := 28) (scr := none) (sh_si (sh_si hS ly_26 (k := 15) rfl ((w_i w 26 15) + 1)) ly_26 (k := 14) rfl 1) ly_28 hb7) rfl ?_
      refine gk_W_s 4 (pc1 := 43) (l1 := [some (.ref 27), some (.int x1), some (.int ((w_a (w_si (w_si w 26 15 ((w_i w 26 15) + 1)) 26 14 1) 28).getD x1.toNatClampNeg 0)), none, none, none, none]) (st1 := [.int 0, .int x1, .ref 27]) rfl ?_
      obtain ⟨hb8, h⟩ := h
      refine gk_W_c (i := .invokevirtual 103) [.int (f_151 (w_si (w_si w 26 15 ((w_i w 26 15) + 1)) 26 14 1) x1 0)] 46 rfl rfl (c_v (a := 26) (sh_si (sh_si hS ly_26 (k := 15) rfl ((w_i w 26 15) + 1)) ly_26 (k := 14) rfl 1) ly_26 rfl rfl (Nat.le_of_ble_eq_true rfl)) (f_151_E (sh_si (sh_si hS ly_26 (k := 15) rfl ((w_i w 26 15) + 1)) ly_26 (k := 14) rfl 1) x1 0 hb8) rfl rfl ?_
      refine gk_W_s 2 (pc1 := 48) (l1 := [some (.ref 27), some (.int x1), some (.int ((w_a (w_si (w_si w 26 15 ((w_i w 26 15) + 1)) 26 14 1) 28).getD x1.toNatClampNeg 0)), some (.int (f_151 (w_si (w_si w 26 15 ((w_i w 26 15) + 1)) 26 14 1) x1 0)), none, none, none]) (st1 := [.ref 27]) rfl ?_
      refine gk_W_h (i := .getfield 21) 51 rfl rfl (h_gr (a := 26) (k := 6) (m := 30) (sh_si (sh_si hS ly_26 (k := 15) rfl ((w_i w 26 15) + 1)) ly_26 (k := 14) rfl 1) ly_26 rfl) rfl ?_
      refine gk_W_s 1 (pc1 := 52) (l1 := [some (.ref 27), some (.int x1), some (.int ((w_a (w_si (w_si w 26 15 ((w_i w 26 15) + 1)) 26 14 1) 28).getD x1.toNatClampNeg 0)), some (.int (f_151 (w_si (w_si w 26 15 ((w_i w 26 15) + 1)) 26 14 1) x1 0)), none, none, none]) (st1 := [.int x1, .ref 30]) rfl ?_
      obtain ⟨hb9, h⟩ := h
      refine gk_W_h (i := .iaload) 53 rfl rfl (h_al (a := 29) (scr := none) (sh_si (sh_si hS ly_26 (k := 15) rfl ((w_i w 26 15) + 1)) ly_26 (k := 14) rfl 1) ly_29 hb9) rfl ?_
      refine gk_W_s 5 (pc1 := 60) (l1 := [some (.ref 27), some (.int x1), some (.int ((w_a (w_si (w_si w 26 15 ((w_i w 26 15) + 1)) 26 14 1) 28).getD x1.toNatClampNeg 0)), some (.int (f_151 (w_si (w_si w 26 15 ((w_i w 26 15) + 1)) 26 14 1) x1 0)), some (.int (((w_a (w_si (w_si w 26 15 ((w_i w 26 15) + 1)) 26 14 1) 29).getD x1.toNatClampNeg 0) - 1)), some (.int 0), none]) (st1 := []) rfl ?_
      exact h
    · have h := h.2 hp6
      obtain ⟨rfl, rfl⟩ := h
      exact gk_W_r (i := .return_) rfl rfl rfl
set_option maxRecDepth 8000 in
/-- GrammarDeskModel.replace(I)V, at 60 -/
theorem sg_183_60 {d : Nat} {rr : List gk_S} {w w' : gk_Wd} {r : gk_Res} (hS : gk_Sh rr w) (x1 : Int32) (x2 : Int32) (x3 : Int32) (x4 : Int32) (x5 : Int32)
    (h : ((x4 ≤ x5 → (∃ (w3 : gk_Wd), gk_E d 155 [.ref 27, .int x1] w (.inl none) w3 ∧ gk_Sh rr w3 ∧ (∃ (w6 : gk_Wd), gk_E d 148 [.ref 27] w3 (.inl none) w6 ∧ gk_Sh rr w6 ∧ gk_W none (d + 1) 183 101 [some (.ref 27), none, some (.int x2), some (.int x3), some (.int x4), some (.int 0), none] [] w6 r w'))) ∧ (¬ (x4 ≤ x5) → ((gk_out ((10 * x1) + (1 + x5)) 640 = false) ∧ (gk_out x5 12 = false ∧ gk_W none (d + 1) 183 60 [some (.ref 27), some (.int x1), some (.int x2), some (.int x3), some (.int x4), some (.int (x5 + 1)), none] [] (w_sa w 51 ((w_a w 51).set x5.toNatClampNeg (f_151 w x1 (1 + x5)))) r w'))))) :
    gk_W none (d + 1) 183 60 [some (.ref 27), some (.int x1), some (.int x2), some (.int x3), some (.int x4), some (.int x5), none] [] w r w' := by
  refine gk_W_b 3 (x4 ≤ x5) (t := 89) (e := 67) (l1 := [some (.ref 27), some (.int x1), some (.int x2), some (.int x3), some (.int x4), some (.int x5), none]) (st1 := []) rfl (fun hp1 => ?_) (fun hp1 => ?_)
  · have h := h.1 hp1
    refine gk_W_s 2 (pc1 := 91) (l1 := [some (.ref 27), some (.int x1), some (.int x2), some (.int x3), some (.int x4), some (.int x5), none]) (st1 := [.int x1, .ref 27]) rfl ?_
    obtain ⟨w3, hE2, hS4, h⟩ := h
    refine gk_W_c (i := .invokevirtual 158) [] 94 rfl rfl (c_v (a := 26) hS ly_26 rfl rfl (Nat.le_of_ble_eq_true rfl)) hE2 rfl rfl ?_
    refine gk_W_s 1 (pc1 := 95) (l1 := [some (.ref 27), some (.int x1), some (.int x2), some (.int x3), some (.int x4), some (.int x5), none]) (st1 := [.ref 27]) rfl ?_
    obtain ⟨w6, hE5, hS7, h⟩ := h
    refine gk_W_c (i := .invokevirtual 121) [] 98 rfl rfl (c_v (a := 26) hS4 ly_26 rfl rfl (Nat.le_of_ble_eq_true rfl)) hE5 rfl rfl ?_
    refine gk_W_s 2 (pc1 := 101) (l1 := [some (.ref 27), some (.int x1), some (.int x2), some (.int x3), some (.int x4), some (.int 0), none]) (st1 := []) rfl ?_
    exact gk_W_le (gk_le_s (gk_le_n (gk_le_s (gk_le_s (gk_le_s (gk_le_s (gk_le_s (gk_le_0)))))))) h
  · have h := h.2 hp1
    refine gk_W_s 1 (pc1 := 68) (l1 := [some (.ref 27), some (.int x1), some (.int x2), some (.int x3), some (.int x4), some (.int x5), none]) (st1 := [.ref 27]) rfl ?_
    refine gk_W_h (i := .getfield 88) 71 rfl rfl (h_gr (a := 26) (k := 36) (m := 52) hS ly_26 rfl) rfl ?_
    refine gk_W_s 6 (pc1 := 79) (l1 := [some (.ref 27), some (.int x1), some (.int x2), some (.int x3), some (.int x4), some (.int x5), none]) (st1 := [.int (1 + x5), .int x1, .ref 27, .int x5, .ref 52]) rfl ?_
    obtain ⟨hb8, h⟩ := h
    refine gk_W_c (i := .invokevirtual 103) [.int (f_151 w x1 (1 + x5)), .int x5, .ref 52] 82 rfl rfl (c_v (a := 26) hS ly_26 rfl rfl (Nat.le_of_ble_eq_true rfl)) (f_151_E hS x1 (1 + x5) hb8) rfl rfl ?_
    obtain ⟨hb9, h⟩ := h
    refine gk_W_h (i := .iastore) 83 rfl rfl (h_as (a := 51) (t := 0) hS ly_51 hb9 rfl) rfl ?_
    refine gk_W_s 2 (pc1 := 60) (l1 := [some (.ref 27), some (.int x1), some (.int x2), some (.int x3), some (.int x4), some (.int (x5 + 1)), none]) (st1 := []) rfl ?_
    exact h
set_option maxRecDepth 8000 in
/-- GrammarDeskModel.replace(I)V, at 101 -/
theorem sg_183_101 {d : Nat} {rr : List gk_S} {w w' : gk_Wd} {r : gk_Res} (hS : gk_Sh rr w) (x2 : Int32) (x3 : Int32) (x4 : Int32) (x5 : Int32)
    (h : (((w_i w 26 8) ≤ x5 → (r = .inl none ∧ w' = w)) ∧ (¬ ((w_i w 26 8) ≤ x5) → ((¬ (w_i w 26 14) = 0 → (r = .inl none ∧ w' = w)) ∧ ((w_i w 26 14) = 0 → (gk_out x5 64 = false ∧ ((((w_a w 31).getD x5.toNatClampNeg 0) = x3 → (∃ (v6 : Int32), ∃ (w7 : gk_Wd), gk_E d 171 [.ref 27, .int x5, .int 0] w (.inl (some (.int v6))) w7 ∧ gk_Sh rr w7 ∧ gk_W none (d + 1) 183 142 [some (.ref 27), none, some (.int x2), some (.int x3), some (.int x4), some (.int x5), some (.int 0)] [] w7 r w')) ∧ (¬ (((w_a w 31).getD x5.toNatClampNeg 0) = x3) → gk_W none (d + 1) 183 101 [some (.ref 27), none, some (.int x2), some (.int x3), some (.int x4), some (.int (x5 + 1)), none] [] w r w')))))))) :
    gk_W none (d + 1) 183 101 [some (.ref 27), none, some (.int x2), some (.int x3), some (.int x4), some (.int x5), none] [] w r w' := by
  refine gk_W_s 2 (pc1 := 104) (l1 := [some (.ref 27), none, some (.int x2), some (.int x3), some (.int x4), some (.int x5), none]) (st1 := [.ref 27, .int x5]) rfl ?_
  refine gk_W_h (i := .getfield 124) 107 rfl rfl (h_gi (a := 26) (k := 8) hS ly_26 rfl) rfl ?_
  refine gk_W_b 1 ((w_i w 26 8) ≤ x5) (t := 193) (e := 110) (l1 := [some (.ref 27), none, some (.int x2), some (.int x3), some (.int x4), some (.int x5), none]) (st1 := []) rfl (fun hp1 => ?_) (fun hp1 => ?_)
  · have h := h.1 hp1
    obtain ⟨rfl, rfl⟩ := h
    exact gk_W_r (i := .return_) rfl rfl rfl
  · have h := h.2 hp1
    refine gk_W_s 1 (pc1 := 111) (l1 := [some (.ref 27), none, some (.int x2), some (.int x3), some (.int x4), some (.int x5), none]) (st1 := [.ref 27]) rfl ?_
    refine gk_W_h (i := .getfield 107) 114 rfl rfl (h_gi (a := 26) (k := 14) hS ly_26 rfl) rfl ?_
    refine gk_W_b 1 (¬ (w_i w 26 14) = 0) (t := 193) (e := 117) (l1 := [some (.ref 27), none, some (.int x2), some (.int x3), some (.int x4), some (.int x5), none]) (st1 := []) rfl (fun hp2 => ?_) (fun hp2 => ?_)
    · have h := h.1 hp2
      obtain ⟨rfl, rfl⟩ := h
      exact gk_W_r (i := .return_) rfl rfl rfl
    · have h := h.2 (Decidable.not_not.mp hp2)
      refine gk_W_s 1 (pc1 := 118) (l1 := [some (.ref 27), none, some (.int x2), some (.int x3), some (.int x4), some (.int x5), none]) (st1 := [.ref 27]) rfl ?_
      refine gk_W_h (i := .getfield 27) 121 rfl rfl (h_gr (a := 26) (k := 9) (m := 32) hS ly_26 rfl) rfl ?_
      refine gk_W_s 1 (pc1 := 123) (l1 := [some (.ref 27), none, some (.int x2), some (.int x3), some (.int x4), some (.int x5), none]) (st1 := [.int x5, .ref 32]) rfl ?_
      obtain ⟨hb3, h⟩ := h
      refine gk_W_h (i := .iaload) 124 rfl rfl (h_al (a := 31) (scr := none) hS ly_31 hb3) rfl ?_
      refine gk_W_b 2 (((w_a w 31).getD x5.toNatClampNeg 0) = x3) (t := 131) (e := 128) (l1 := [some (.ref 27), none, some (.int x2), some (.int x3), some (.int x4), some (.int x5), none]) (st1 := []) rfl (fun hp4 => ?_) (fun hp4 => ?_)
      · have h := h.1 hp4
        refine gk_W_s 3 (pc1 := 135) (l1 := [some (.ref 27), none, some (.int x2), some (.int x3), some (.int x4), some (.int x5), none]) (st1 := [.int 0, .int x5, .ref 27]) rfl ?_
        obtain ⟨v6, w7, hE5, hS8, h⟩ := h
        refine gk_W_c (i := .invokevirtual 189) [.int v6] 138 rfl rfl (c_v (a := 26) hS ly_26 rfl rfl (Nat.le_of_ble_eq_true rfl)) hE5 rfl rfl ?_
        refine gk_W_s 3 (pc1 := 142) (l1 := [some (.ref 27), none, some (.int x2), some (.int x3), some (.int x4), some (.int x5), some (.int 0)]) (st1 := []) rfl ?_
        exact h
      · have h := h.2 hp4
        refine gk_W_s 3 (pc1 := 101) (l1 := [some (.ref 27), none, some (.int x2), some (.int x3), some (.int x4), some (.int (x5 + 1)), none]) (st1 := []) rfl ?_
        exact h
set_option maxRecDepth 8000 in
/-- GrammarDeskModel.replace(I)V, at 142 -/
theorem sg_183_142 {d : Nat} {rr : List gk_S} {w w' : gk_Wd} {r : gk_Res} (hS : gk_Sh rr w) (x2 : Int32) (x3 : Int32) (x4 : Int32) (x5 : Int32) (x6 : Int32)
    (h : ((x4 ≤ x6 → (∃ (v3 : Int32), ∃ (w4 : gk_Wd), gk_E d 149 [.ref 27, .int x2] w (.inl (some (.int v3))) w4 ∧ gk_Sh rr w4 ∧ gk_W none (d + 1) 183 101 [some (.ref 27), none, some (.int x2), some (.int x3), some (.int x4), some (.int (x5 + 1)), none] [] w4 r w')) ∧ (¬ (x4 ≤ x6) → (gk_out x6 12 = false ∧ (gk_out (w_i w 26 12) 24 = false ∧ gk_W none (d + 1) 183 142 [some (.ref 27), none, some (.int x2), some (.int x3), some (.int x4), some (.int x5), some (.int (x6 + 1))] [] (w_si (w_sa w 34 ((w_a w 34).set (w_i w 26 12).toNatClampNeg ((w_a w 51).getD x6.toNatClampNeg 0))) 26 12 ((w_i (w_sa w 34 ((w_a w 34).set (w_i w 26 12).toNatClampNeg ((w_a w 51).getD x6.toNatClampNeg 0))) 26 12) + 1)) r w'))))) :
    gk_W none (d + 1) 183 142 [some (.ref 27), none, some (.int x2), some (.int x3), some (.int x4), some (.int x5), some (.int x6)] [] w r w' := by
  refine gk_W_b 3 (x4 ≤ x6) (t := 181) (e := 149) (l1 := [some (.ref 27), none, some (.int x2), some (.int x3), some (.int x4), some (.int x5), some (.int x6)]) (st1 := []) rfl (fun hp1 => ?_) (fun hp1 => ?_)
  · have h := h.1 hp1
    refine gk_W_s 2 (pc1 := 183) (l1 := [some (.ref 27), none, some (.int x2), some (.int x3), some (.int x4), some (.int x5), some (.int x6)]) (st1 := [.int x2, .ref 27]) rfl ?_
    obtain ⟨v3, w4, hE2, hS5, h⟩ := h
    refine gk_W_c (i := .invokevirtual 155) [.int v3] 186 rfl rfl (c_v (a := 26) hS ly_26 rfl rfl (Nat.le_of_ble_eq_true rfl)) hE2 rfl rfl ?_
    refine gk_W_s 3 (pc1 := 101) (l1 := [some (.ref 27), none, some (.int x2), some (.int x3), some (.int x4), some (.int (x5 + 1)), some (.int x6)]) (st1 := []) rfl ?_
    exact gk_W_le (gk_le_s (gk_le_s (gk_le_s (gk_le_s (gk_le_s (gk_le_s (gk_le_n (gk_le_0)))))))) h
  · have h := h.2 hp1
    refine gk_W_s 1 (pc1 := 150) (l1 := [some (.ref 27), none, some (.int x2), some (.int x3), some (.int x4), some (.int x5), some (.int x6)]) (st1 := [.ref 27]) rfl ?_
    refine gk_W_h (i := .getfield 36) 153 rfl rfl (h_gr (a := 26) (k := 13) (m := 35) hS ly_26 rfl) rfl ?_
    refine gk_W_s 1 (pc1 := 154) (l1 := [some (.ref 27), none, some (.int x2), some (.int x3), some (.int x4), some (.int x5), some (.int x6)]) (st1 := [.ref 27, .ref 35]) rfl ?_
    refine gk_W_h (i := .getfield 100) 157 rfl rfl (h_gi (a := 26) (k := 12) hS ly_26 rfl) rfl ?_
    refine gk_W_s 1 (pc1 := 158) (l1 := [some (.ref 27), none, some (.int x2), some (.int x3), some (.int x4), some (.int x5), some (.int x6)]) (st1 := [.ref 27, .int (w_i w 26 12), .ref 35]) rfl ?_
    refine gk_W_h (i := .getfield 88) 161 rfl rfl (h_gr (a := 26) (k := 36) (m := 52) hS ly_26 rfl) rfl ?_
    refine gk_W_s 1 (pc1 := 163) (l1 := [some (.ref 27), none, some (.int x2), some (.int x3), some (.int x4), some (.int x5), some (.int x6)]) (st1 := [.int x6, .ref 52, .int (w_i w 26 12), .ref 35]) rfl ?_
    obtain ⟨hb6, h⟩ := h
    refine gk_W_h (i := .iaload) 164 rfl rfl (h_al (a := 51) (scr := none) hS ly_51 hb6) rfl ?_
    obtain ⟨hb7, h⟩ := h
    refine gk_W_h (i := .iastore) 165 rfl rfl (h_as (a := 34) (t := 0) hS ly_34 hb7 rfl) rfl ?_
    refine gk_W_s 2 (pc1 := 167) (l1 := [some (.ref 27), none, some (.int x2), some (.int x3), some (.int x4), some (.int x5), some (.int x6)]) (st1 := [.ref 27, .ref 27]) rfl ?_
    refine gk_W_h (i := .getfield 100) 170 rfl rfl (h_gi (a := 26) (k := 12) (sh_as hS ly_34 ((w_i w 26 12).toNatClampNeg) ((w_a w 51).getD x6.toNatClampNeg 0)) ly_26 rfl) rfl ?_
    refine gk_W_s 2 (pc1 := 172) (l1 := [some (.ref 27), none, some (.int x2), some (.int x3), some (.int x4), some (.int x5), some (.int x6)]) (st1 := [.int ((w_i (w_sa w 34 ((w_a w 34).set (w_i w 26 12).toNatClampNeg ((w_a w 51).getD x6.toNatClampNeg 0))) 26 12) + 1), .ref 27]) rfl ?_
    refine gk_W_h (i := .putfield 100) 175 rfl rfl (h_pi (a := 26) (k := 12) (x := (w_i (w_sa w 34 ((w_a w 34).set (w_i w 26 12).toNatClampNeg ((w_a w 51).getD x6.toNatClampNeg 0))) 26 12) + 1) (sh_as hS ly_34 ((w_i w 26 12).toNatClampNeg) ((w_a w 51).getD x6.toNatClampNeg 0)) ly_26 rfl rfl) rfl ?_
    refine gk_W_s 2 (pc1 := 142) (l1 := [some (.ref 27), none, some (.int x2), some (.int x3), some (.int x4), some (.int x5), some (.int (x6 + 1))]) (st1 := []) rfl ?_
    exact h
set_option maxRecDepth 8000 in
/-- GrammarDeskModel.unwind(I)V, at 0 -/
theorem sg_184_0 {d : Nat} {rr : List gk_S} {w w' : gk_Wd} {r : gk_Res} (hS : gk_Sh rr w) (x1 : Int32)
    (h : gk_W none (d + 2) 184 4 [some (.ref 27), some (.int x1), some (.int 0), some (.int 0), none, none, none] [] w r w') :
    gk_W none (d + 2) 184 0 [some (.ref 27), some (.int x1), none, none, none, none, none] [] w r w' := by
  refine gk_W_s 4 (pc1 := 4) (l1 := [some (.ref 27), some (.int x1), some (.int 0), some (.int 0), none, none, none]) (st1 := []) rfl ?_
  exact h
set_option maxRecDepth 8000 in
/-- GrammarDeskModel.unwind(I)V, at 4 -/
theorem sg_184_4 {d : Nat} {rr : List gk_S} {w w' : gk_Wd} {r : gk_Res} (hS : gk_Sh rr w) (x1 : Int32) (x2 : Int32) (x3 : Int32)
    (h : (((w_i w 26 4) ≤ x3 → ((x2 = 0 → (r = .inl none ∧ w' = w)) ∧ (¬ (x2 = 0) → (((w_i w 26 14) = 0 → (∃ (v5 : Int32), gk_E (d + 1) 186 [.ref 27] w (.inl (some (.int v5))) w ∧ ((0 ≤ v5 → (∃ (w8 : gk_Wd), gk_E (d + 1) 148 [.ref 27] w (.inl none) w8 ∧ gk_Sh rr w8 ∧ gk_W none (d + 2) 184 86 [some (.ref 27), some (.int x1), none, some (.int v5), some (.int ((w_i w8 26 4) - 1)), none, none] [] w8 r w')) ∧ (¬ (0 ≤ v5) → (r = .inl none ∧ w' = w_si w 26 14 1))))) ∧ (¬ ((w_i w 26 14) = 0) → (r = .inl none ∧ w' = w)))))) ∧ (¬ ((w_i w 26 4) ≤ x3) → ((¬ x2 = 0 → gk_W none (d + 2) 184 4 [some (.ref 27), some (.int x1), some (.int 1), some (.int (x3 + 1)), none, none, none] [] w r w') ∧ (x2 = 0 → (gk_out x3 64 = false ∧ ((¬ ((w_a w 28).getD x3.toNatClampNeg 0) = x1 → gk_W none (d + 2) 184 4 [some (.ref 27), some (.int x1), some (.int 0), some (.int (x3 + 1)), none, none, none] [] w r w') ∧ (((w_a w 28).getD x3.toNatClampNeg 0) = x1 → ((gk_out x3 64 = false) ∧ (¬ (((w_a w 29).getD x3.toNatClampNeg 0) ≤ 0) → (gk_out ((10 * x3) + 0) 640 = false)) ∧ (((f_185 w x3 x1) = 0 → gk_W none (d + 2) 184 4 [some (.ref 27), some (.int x1), some (.int 0), some (.int (x3 + 1)), none, none, none] [] w r w') ∧ (¬ ((f_185 w x3 x1) = 0) → gk_W none (d + 2) 184 4 [some (.ref 27), some (.int x1), some (.int 1), some (.int (x3 + 1)), none, none, none] [] w r w'))))))))))) :
    gk_W none (d + 2) 184 4 [some (.ref 27), some (.int x1), some (.int x2), some (.int x3), none, none, none] [] w r w' := by
  refine gk_W_s 2 (pc1 := 6) (l1 := [some (.ref 27), some (.int x1), some (.int x2), some (.int x3), none, none, none]) (st1 := [.ref 27, .int x3]) rfl ?_
  refine gk_W_h (i := .getfield 111) 9 rfl rfl (h_gi (a := 26) (k := 4) hS ly_26 rfl) rfl ?_
  refine gk_W_b 1 ((w_i w 26 4) ≤ x3) (t := 47) (e := 12) (l1 := [some (.ref 27), some (.int x1), some (.int x2), some (.int x3), none, none, none]) (st1 := []) rfl (fun hp1 => ?_) (fun hp1 => ?_)
  · have h := h.1 hp1
    refine gk_W_b 2 (x2 = 0) (t := 58) (e := 51) (l1 := [some (.ref 27), some (.int x1), some (.int x2), some (.int x3), none, none, none]) (st1 := []) rfl (fun hp2 => ?_) (fun hp2 => ?_)
    · have h := h.1 hp2
      obtain ⟨rfl, rfl⟩ := h
      exact gk_W_r (i := .return_) rfl rfl rfl
    · have h := h.2 hp2
      refine gk_W_s 1 (pc1 := 52) (l1 := [some (.ref 27), some (.int x1), some (.int x2), some (.int x3), none, none, none]) (st1 := [.ref 27]) rfl ?_
      refine gk_W_h (i := .getfield 107) 55 rfl rfl (h_gi (a := 26) (k := 14) hS ly_26 rfl) rfl ?_
      refine gk_W_b 1 ((w_i w 26 14) = 0) (t := 59) (e := 58) (l1 := [some (.ref 27), some (.int x1), some (.int x2), some (.int x3), none, none, none]) (st1 := []) rfl (fun hp3 => ?_) (fun hp3 => ?_)
      · have h := h.1 hp3
        refine gk_W_s 1 (pc1 := 60) (l1 := [some (.ref 27), some (.int x1), some (.int x2), some (.int x3), none, none, none]) (st1 := [.ref 27]) rfl ?_
        obtain ⟨v5, hE4, h⟩ := h
        refine gk_W_c (i := .invokevirtual 222) [.int v5] 63 rfl rfl (c_v (a := 26) hS ly_26 rfl rfl (Nat.le_of_ble_eq_true rfl)) hE4 rfl rfl ?_
        refine gk_W_b 3 (0 ≤ v5) (t := 74) (e := 68) (l1 := [some (.ref 27), some (.int x1), some (.int x2), some (.int v5), none, none, none]) (st1 := []) rfl (fun hp6 => ?_) (fun hp6 => ?_)
        · have h := h.1 hp6
          refine gk_W_s 1 (pc1 := 75) (l1 := [some (.ref 27), some (.int x1), some (.int x2), some (.int v5), none, none, none]) (st1 := [.ref 27]) rfl ?_
          obtain ⟨w8, hE7, hS9, h⟩ := h
          refine gk_W_c (i := .invokevirtual 121) [] 78 rfl rfl (c_v (a := 26) hS ly_26 rfl rfl (Nat.le_of_ble_eq_true rfl)) hE7 rfl rfl ?_
          refine gk_W_s 1 (pc1 := 79) (l1 := [some (.ref 27), some (.int x1), some (.int x2), some (.int v5), none, none, none]) (st1 := [.ref 27]) rfl ?_
          refine gk_W_h (i := .getfield 111) 82 rfl rfl (h_gi (a := 26) (k := 4) hS9 ly_26 rfl) rfl ?_
          refine gk_W_s 3 (pc1 := 86) (l1 := [some (.ref 27), some (.int x1), some (.int x2), some (.int v5), some (.int ((w_i w8 26 4) - 1)), none, none]) (st1 := []) rfl ?_
          exact gk_W_le (gk_le_s (gk_le_s (gk_le_n (gk_le_s (gk_le_s (gk_le_s (gk_le_s (gk_le_0)))))))) h
        · have h := h.2 hp6
          refine gk_W_s 2 (pc1 := 70) (l1 := [some (.ref 27), some (.int x1), some (.int x2), some (.int v5), none, none, none]) (st1 := [.int 1, .ref 27]) rfl ?_
          refine gk_W_h (i := .putfield 107) 73 rfl rfl (h_pi (a := 26) (k := 14) (x := 1) hS ly_26 rfl rfl) rfl ?_
          obtain ⟨rfl, rfl⟩ := h
          exact gk_W_r (i := .return_) rfl rfl rfl
      · have h := h.2 hp3
        obtain ⟨rfl, rfl⟩ := h
        exact gk_W_r (i := .return_) rfl rfl rfl
  · have h := h.2 hp1
    refine gk_W_b 2 (¬ x2 = 0) (t := 35) (e := 16) (l1 := [some (.ref 27), some (.int x1), some (.int x2), some (.int x3), none, none, none]) (st1 := []) rfl (fun hp10 => ?_) (fun hp10 => ?_)
    · have h := h.1 hp10
      refine gk_W_s 5 (pc1 := 4) (l1 := [some (.ref 27), some (.int x1), some (.int 1), some (.int (x3 + 1)), none, none, none]) (st1 := []) rfl ?_
      exact h
    · have h := h.2 (Decidable.not_not.mp hp10)
      refine gk_W_s 1 (pc1 := 17) (l1 := [some (.ref 27), some (.int x1), some (.int x2), some (.int x3), none, none, none]) (st1 := [.ref 27]) rfl ?_
      refine gk_W_h (i := .getfield 17) 20 rfl rfl (h_gr (a := 26) (k := 5) (m := 29) hS ly_26 rfl) rfl ?_
      refine gk_W_s 1 (pc1 := 21) (l1 := [some (.ref 27), some (.int x1), some (.int x2), some (.int x3), none, none, none]) (st1 := [.int x3, .ref 29]) rfl ?_
      obtain ⟨hb11, h⟩ := h
      refine gk_W_h (i := .iaload) 22 rfl rfl (h_al (a := 28) (scr := none) hS ly_28 hb11) rfl ?_
      refine gk_W_b 2 (¬ ((w_a w 28).getD x3.toNatClampNeg 0) = x1) (t := 39) (e := 26) (l1 := [some (.ref 27), some (.int x1), some (.int x2), some (.int x3), none, none, none]) (st1 := []) rfl (fun hp12 => ?_) (fun hp12 => ?_)
      · have h := h.1 hp12
        refine gk_W_s 4 (pc1 := 4) (l1 := [some (.ref 27), some (.int x1), some (.int 0), some (.int (x3 + 1)), none, none, none]) (st1 := []) rfl ?_
        exact h
      · have h := h.2 (Decidable.not_not.mp hp12)
        refine gk_W_s 3 (pc1 := 29) (l1 := [some (.ref 27), some (.int x1), some (.int x2), some (.int x3), none, none, none]) (st1 := [.int x1, .int x3, .ref 27]) rfl ?_
        obtain ⟨hb13, hb14, h⟩ := h
        refine gk_W_c (i := .invokevirtual 219) [.int (f_185 w x3 x1)] 32 rfl rfl (c_v (a := 26) hS ly_26 rfl rfl (Nat.le_of_ble_eq_true rfl)) (f_185_E hS x3 x1 hb13 hb14) rfl rfl ?_
        refine gk_W_b 1 ((f_185 w x3 x1) = 0) (t := 39) (e := 35) (l1 := [some (.ref 27), some (.int x1), some (.int x2), some (.int x3), none, none, none]) (st1 := []) rfl (fun hp15 => ?_) (fun hp15 => ?_)
        · have h := h.1 hp15
          refine gk_W_s 4 (pc1 := 4) (l1 := [some (.ref 27), some (.int x1), some (.int 0), some (.int (x3 + 1)), none, none, none]) (st1 := []) rfl ?_
          exact h
        · have h := h.2 hp15
          refine gk_W_s 5 (pc1 := 4) (l1 := [some (.ref 27), some (.int x1), some (.int 1), some (.int (x3 + 1)), none, none, none]) (st1 := []) rfl ?_
          exact h
set_option maxRecDepth 8000 in
/-- GrammarDeskModel.unwind(I)V, at 86 -/
theorem sg_184_86 {d : Nat} {rr : List gk_S} {w w' : gk_Wd} {r : gk_Res} (hS : gk_Sh rr w) (x1 : Int32) (x3 : Int32) (x4 : Int32)
    (h : ((x4 < 0 → gk_W none (d + 2) 184 127 [some (.ref 27), some (.int x1), none, some (.int x3), some (.int 0), none, none] [] w r w') ∧ (¬ (x4 < 0) → (gk_out x4 64 = false ∧ ((¬ ((w_a w 28).getD x4.toNatClampNeg 0) = x1 → gk_W none (d + 2) 184 86 [some (.ref 27), some (.int x1), none, some (.int x3), some (.int (x4 + (-1))), none, none] [] w r w') ∧ (((w_a w 28).getD x4.toNatClampNeg 0) = x1 → ((gk_out x4 64 = false) ∧ (¬ (((w_a w 29).getD x4.toNatClampNeg 0) ≤ 0) → (gk_out ((10 * x4) + 0) 640 = false)) ∧ (((f_185 w x4 x1) = 0 → gk_W none (d + 2) 184 86 [some (.ref 27), some (.int x1), none, some (.int x3), some (.int (x4 + (-1))), none, none] [] w r w') ∧ (¬ ((f_185 w x4 x1) = 0) → (∃ (w8 : gk_Wd), gk_E (d + 1) 155 [.ref 27, .int x4] w (.inl none) w8 ∧ gk_Sh rr w8 ∧ gk_W none (d + 2) 184 86 [some (.ref 27), some (.int x1), none, some (.int x3), some (.int (x4 + (-1))), none, none] [] w8 r w')))))))))) :
    gk_W none (d + 2) 184 86 [some (.ref 27), some (.int x1), none, some (.int x3), some (.int x4), none, none] [] w r w' := by
  refine gk_W_b 2 (x4 < 0) (t := 124) (e := 91) (l1 := [some (.ref 27), some (.int x1), none, some (.int x3), some (.int x4), none, none]) (st1 := []) rfl (fun hp1 => ?_) (fun hp1 => ?_)
  · have h := h.1 hp1
    refine gk_W_s 2 (pc1 := 127) (l1 := [some (.ref 27), some (.int x1), none, some (.int x3), some (.int 0), none, none]) (st1 := []) rfl ?_
    exact h
  · have h := h.2 hp1
    refine gk_W_s 1 (pc1 := 92) (l1 := [some (.ref 27), some (.int x1), none, some (.int x3), some (.int x4), none, none]) (st1 := [.ref 27]) rfl ?_
    refine gk_W_h (i := .getfield 17) 95 rfl rfl (h_gr (a := 26) (k := 5) (m := 29) hS ly_26 rfl) rfl ?_
    refine gk_W_s 1 (pc1 := 97) (l1 := [some (.ref 27), some (.int x1), none, some (.int x3), some (.int x4), none, none]) (st1 := [.int x4, .ref 29]) rfl ?_
    obtain ⟨hb2, h⟩ := h
    refine gk_W_h (i := .iaload) 98 rfl rfl (h_al (a := 28) (scr := none) hS ly_28 hb2) rfl ?_
    refine gk_W_b 2 (¬ ((w_a w 28).getD x4.toNatClampNeg 0) = x1) (t := 118) (e := 102) (l1 := [some (.ref 27), some (.int x1), none, some (.int x3), some (.int x4), none, none]) (st1 := []) rfl (fun hp3 => ?_) (fun hp3 => ?_)
    · have h := h.1 hp3
      refine gk_W_s 2 (pc1 := 86) (l1 := [some (.ref 27), some (.int x1), none, some (.int x3), some (.int (x4 + (-1))), none, none]) (st1 := []) rfl ?_
      exact h
    · have h := h.2 (Decidable.not_not.mp hp3)
      refine gk_W_s 3 (pc1 := 106) (l1 := [some (.ref 27), some (.int x1), none, some (.int x3), some (.int x4), none, none]) (st1 := [.int x1, .int x4, .ref 27]) rfl ?_
      obtain ⟨hb4, hb5, h⟩ := h
      refine gk_W_c (i := .invokevirtual 219) [.int (f_185 w x4 x1)] 109 rfl rfl (c_v (a := 26) hS ly_26 rfl rfl (Nat.le_of_ble_eq_true rfl)) (f_185_E hS x4 x1 hb4 hb5) rfl rfl ?_
      refine gk_W_b 1 ((f_185 w x4 x1) = 0) (t := 118) (e := 112) (l1 := [some (.ref 27), some (.int x1), none, some (.int x3), some (.int x4), none, none]) (st1 := []) rfl (fun hp6 => ?_) (fun hp6 => ?_)
      · have h := h.1 hp6
        refine gk_W_s 2 (pc1 := 86) (l1 := [some (.ref 27), some (.int x1), none, some (.int x3), some (.int (x4 + (-1))), none, none]) (st1 := []) rfl ?_
        exact h
      · have h := h.2 hp6
        refine gk_W_s 2 (pc1 := 115) (l1 := [some (.ref 27), some (.int x1), none, some (.int x3), some (.int x4), none, none]) (st1 := [.int x4, .ref 27]) rfl ?_
        obtain ⟨w8, hE7, hS9, h⟩ := h
        refine gk_W_c (i := .invokevirtual 158) [] 118 rfl rfl (c_v (a := 26) hS ly_26 rfl rfl (Nat.le_of_ble_eq_true rfl)) hE7 rfl rfl ?_
        refine gk_W_s 2 (pc1 := 86) (l1 := [some (.ref 27), some (.int x1), none, some (.int x3), some (.int (x4 + (-1))), none, none]) (st1 := []) rfl ?_
        exact h
set_option maxRecDepth 8000 in
/-- GrammarDeskModel.unwind(I)V, at 127 -/
theorem sg_184_127 {d : Nat} {rr : List gk_S} {w w' : gk_Wd} {r : gk_Res} (hS : gk_Sh rr w) (x1 : Int32) (x3 : Int32) (x4 : Int32)
    (h : (((w_i w 26 8) ≤ x4 → (r = .inl none ∧ w' = w)) ∧ (¬ ((w_i w 26 8) ≤ x4) → ((¬ (w_i w 26 14) = 0 → (r = .inl none ∧ w' = w)) ∧ ((w_i w 26 14) = 0 → (gk_out x4 64 = false ∧ ((((w_a w 31).getD x4.toNatClampNeg 0) = x1 → (∃ (v6 : Int32), ∃ (w7 : gk_Wd), gk_E (d + 1) 171 [.ref 27, .int x4, .int 0] w (.inl (some (.int v6))) w7 ∧ gk_Sh rr w7 ∧ ((¬ ((w_a w7 34).getD 0 0) = x1 → (gk_out (w_i w7 26 12) 24 = false ∧ (∃ (v12 : Int32), ∃ (w13 : gk_Wd), gk_E (d + 1) 149 [.ref 27, .int x1] (w_si (w_sa w7 34 ((w_a w7 34).set (w_i w7 26 12).toNatClampNeg x3)) 26 12 ((w_i (w_sa w7 34 ((w_a w7 34).set (w_i w7 26 12).toNatClampNeg x3)) 26 12) + 1)) (.inl (some (.int v12))) w13 ∧ gk_Sh rr w13 ∧ gk_W none (d + 2) 184 127 [some (.ref 27), some (.int x1), none, some (.int x3), some (.int (x4 + 1)), none, none] [] w13 r w'))) ∧ (((w_a w7 34).getD 0 0) = x1 → (((w_i w7 26 12) ≤ 0 → (gk_out (w_i w7 26 12) 24 = false ∧ (∃ (v18 : Int32), ∃ (w19 : gk_Wd), gk_E (d + 1) 149 [.ref 27, .int x1] (w_si (w_sa w7 34 ((w_a w7 34).set (w_i w7 26 12).toNatClampNeg x3)) 26 12 ((w_i (w_sa w7 34 ((w_a w7 34).set (w_i w7 26 12).toNatClampNeg x3)) 26 12) + 1)) (.inl (some (.int v18))) w19 ∧ gk_Sh rr w19 ∧ gk_W none (d + 2) 184 127 [some (.ref 27), some (.int x1), none, some (.int x3), some (.int (x4 + 1)), none, none] [] w19 r w'))) ∧ (¬ ((w_i w7 26 12) ≤ 0) → gk_W none (d + 2) 184 197 [some (.ref 27), some (.int x1), none, some (.int x3), some (.int x4), some (.int 1), some (.int 1)] [] w7 r w')))))) ∧ (¬ (((w_a w 31).getD x4.toNatClampNeg 0) = x1) → gk_W none (d + 2) 184 127 [some (.ref 27), some (.int x1), none, some (.int x3), some (.int (x4 + 1)), none, none] [] w r w')))))))) :
    gk_W none (d + 2) 184 127 [some (.ref 27), some (.int x1), none, some (.int x3), some (.int x4), none, none] [] w r w' := by
  refine gk_W_s 2 (pc1 := 130) (l1 := [some (.ref 27), some (.int x1), none, some (.int x3), some (.int x4), none, none]) (st1 := [.ref 27, .int x4]) rfl ?_
  refine gk_W_h (i := .getfield 124) 133 rfl rfl (h_gi (a := 26) (k := 8) hS ly_26 rfl) rfl ?_
  refine gk_W_b 1 ((w_i w 26 8) ≤ x4) (t := 285) (e := 136) (l1 := [some (.ref 27), some (.int x1), none, some (.int x3), some (.int x4), none, none]) (st1 := []) rfl (fun hp1 => ?_) (fun hp1 => ?_)
  · have h := h.1 hp1
    obtain ⟨rfl, rfl⟩ := h
    exact gk_W_r (i := .return_) rfl rfl rfl
  · have h := h.2 hp1
    refine gk_W_s 1 (pc1 := 137) (l1 := [some (.ref 27), some (.int x1), none, some (.int x3), some (.int x4), none, none]) (st1 := [.ref 27]) rfl ?_
    refine gk_W_h (i := .getfield 107) 140 rfl rfl (h_gi (a := 26) (k := 14) hS ly_26 rfl) rfl ?_
    refine gk_W_b 1 (¬ (w_i w 26 14) = 0) (t := 285) (e := 143) (l1 := [some (.ref 27), some (.int x1), none, some (.int x3), some (.int x4), none, none]) (st1 := []) rfl (fun hp2 => ?_) (fun hp2 => ?_)
    · have h := h.1 hp2
      obtain ⟨rfl, rfl⟩ := h
      exact gk_W_r (i := .return_) rfl rfl rfl
    · have h := h.2 (Decidable.not_not.mp hp2)
      refine gk_W_s 1 (pc1 := 144) (l1 := [some (.ref 27), some (.int x1), none, some (.int x3), some (.int x4), none, none]) (st1 := [.ref 27]) rfl ?_
      refine gk_W_h (i := .getfield 27) 147 rfl rfl (h_gr (a := 26) (k := 9) (m := 32) hS ly_26 rfl) rfl ?_
      refine gk_W_s 1 (pc1 := 149) (l1 := [some (.ref 27), some (.int x1), none, some (.int x3), some (.int x4), none, none]) (st1 := [.int x4, .ref 32]) rfl ?_
      obtain ⟨hb3, h⟩ := h
      refine gk_W_h (i := .iaload) 150 rfl rfl (h_al (a := 31) (scr := none) hS ly_31 hb3) rfl ?_
      refine gk_W_b 2 (((w_a w 31).getD x4.toNatClampNeg 0) = x1) (t := 157) (e := 154) (l1 := [some (.ref 27), some (.int x1), none, some (.int x3), some (.int x4), none, none]) (st1 := []) rfl (fun hp4 => ?_) (fun hp4 => ?_)
      · have h := h.1 hp4
        refine gk_W_s 3 (pc1 := 161) (l1 := [some (.ref 27), some (.int x1), none, some (.int x3), some (.int x4), none, none]) (st1 := [.int 0, .int x4, .ref 27]) rfl ?_
        obtain ⟨v6, w7, hE5, hS8, h⟩ := h
        refine gk_W_c (i := .invokevirtual 189) [.int v6] 164 rfl rfl (c_v (a := 26) hS ly_26 rfl rfl (Nat.le_of_ble_eq_true rfl)) hE5 rfl rfl ?_
        refine gk_W_s 2 (pc1 := 166) (l1 := [some (.ref 27), some (.int x1), none, some (.int x3), some (.int x4), none, none]) (st1 := [.ref 27]) rfl ?_
        refine gk_W_h (i := .getfield 36) 169 rfl rfl (h_gr (a := 26) (k := 13) (m := 35) hS8 ly_26 rfl) rfl ?_
        refine gk_W_s 1 (pc1 := 170) (l1 := [some (.ref 27), some (.int x1), none, some (.int x3), some (.int x4), none, none]) (st1 := [.int 0, .ref 35]) rfl ?_
        refine gk_W_h (i := .iaload) 171 rfl rfl (h_al (a := 34) (scr := none) hS8 ly_34 rfl) rfl ?_
        refine gk_W_b 2 (¬ ((w_a w7 34).getD 0 0) = x1) (t := 186) (e := 175) (l1 := [some (.ref 27), some (.int x1), none, some (.int x3), some (.int x4), none, none]) (st1 := []) rfl (fun hp9 => ?_) (fun hp9 => ?_)
        · have h := h.1 hp9
          refine gk_W_s 5 (pc1 := 245) (l1 := [some (.ref 27), some (.int x1), none, some (.int x3), some (.int x4), some (.int 0), none]) (st1 := [.ref 27]) rfl ?_
          refine gk_W_h (i := .getfield 36) 248 rfl rfl (h_gr (a := 26) (k := 13) (m := 35) hS8 ly_26 rfl) rfl ?_
          refine gk_W_s 1 (pc1 := 249) (l1 := [some (.ref 27), some (.int x1), none, some (.int x3), some (.int x4), some (.int 0), none]) (st1 := [.ref 27, .ref 35]) rfl ?_
          refine gk_W_h (i := .getfield 100) 252 rfl rfl (h_gi (a := 26) (k := 12) hS8 ly_26 rfl) rfl ?_
          refine gk_W_s 1 (pc1 := 253) (l1 := [some (.ref 27), some (.int x1), none, some (.int x3), some (.int x4), some (.int 0), none]) (st1 := [.int x3, .int (w_i w7 26 12), .ref 35]) rfl ?_
          obtain ⟨hb10, h⟩ := h
          refine gk_W_h (i := .iastore) 254 rfl rfl (h_as (a := 34) (t := 0) hS8 ly_34 hb10 rfl) rfl ?_
          refine gk_W_s 2 (pc1 := 256) (l1 := [some (.ref 27), some (.int x1), none, some (.int x3), some (.int x4), some (.int 0), none]) (st1 := [.ref 27, .ref 27]) rfl ?_
          refine gk_W_h (i := .getfield 100) 259 rfl rfl (h_gi (a := 26) (k := 12) (sh_as hS8 ly_34 ((w_i w7 26 12).toNatClampNeg) x3) ly_26 rfl) rfl ?_
          refine gk_W_s 2 (pc1 := 261) (l1 := [some (.ref 27), some (.int x1), none, some (.int x3), some (.int x4), some (.int 0), none]) (st1 := [.int ((w_i (w_sa w7 34 ((w_a w7 34).set (w_i w7 26 12).toNatClampNeg x3)) 26 12) + 1), .ref 27]) rfl ?_
          refine gk_W_h (i := .putfield 100) 264 rfl rfl (h_pi (a := 26) (k := 12) (x := (w_i (w_sa w7 34 ((w_a w7 34).set (w_i w7 26 12).toNatClampNeg x3)) 26 12) + 1) (sh_as hS8 ly_34 ((w_i w7 26 12).toNatClampNeg) x3) ly_26 rfl rfl) rfl ?_
          refine gk_W_s 4 (pc1 := 275) (l1 := [some (.ref 27), some (.int x1), none, some (.int x3), some (.int x4), some (.int 0), none]) (st1 := [.int x1, .ref 27]) rfl ?_
          obtain ⟨v12, w13, hE11, hS14, h⟩ := h
          refine gk_W_c (i := .invokevirtual 155) [.int v12] 278 rfl rfl (c_v (a := 26) (sh_si (sh_as hS8 ly_34 ((w_i w7 26 12).toNatClampNeg) x3) ly_26 (k := 12) rfl ((w_i (w_sa w7 34 ((w_a w7 34).set (w_i w7 26 12).toNatClampNeg x3)) 26 12) + 1)) ly_26 rfl rfl (Nat.le_of_ble_eq_true rfl)) hE11 rfl rfl ?_
          refine gk_W_s 3 (pc1 := 127) (l1 := [some (.ref 27), some (.int x1), none, some (.int x3), some (.int (x4 + 1)), some (.int 0), none]) (st1 := []) rfl ?_
          exact gk_W_le (gk_le_s (gk_le_s (gk_le_s (gk_le_s (gk_le_s (gk_le_n (gk_le_s (gk_le_0)))))))) h
        · have h := h.2 (Decidable.not_not.mp hp9)
          refine gk_W_s 1 (pc1 := 176) (l1 := [some (.ref 27), some (.int x1), none, some (.int x3), some (.int x4), none, none]) (st1 := [.ref 27]) rfl ?_
          refine gk_W_h (i := .getfield 100) 179 rfl rfl (h_gi (a := 26) (k := 12) hS8 ly_26 rfl) rfl ?_
          refine gk_W_b 1 ((w_i w7 26 12) ≤ 0) (t := 186) (e := 182) (l1 := [some (.ref 27), some (.int x1), none, some (.int x3), some (.int x4), none, none]) (st1 := []) rfl (fun hp15 => ?_) (fun hp15 => ?_)
          · have h := h.1 hp15
            refine gk_W_s 5 (pc1 := 245) (l1 := [some (.ref 27), some (.int x1), none, some (.int x3), some (.int x4), some (.int 0), none]) (st1 := [.ref 27]) rfl ?_
            refine gk_W_h (i := .getfield 36) 248 rfl rfl (h_gr (a := 26) (k := 13) (m := 35) hS8 ly_26 rfl) rfl ?_
            refine gk_W_s 1 (pc1 := 249) (l1 := [some (.ref 27), some (.int x1), none, some (.int x3), some (.int x4), some (.int 0), none]) (st1 := [.ref 27, .ref 35]) rfl ?_
            refine gk_W_h (i := .getfield 100) 252 rfl rfl (h_gi (a := 26) (k := 12) hS8 ly_26 rfl) rfl ?_
            refine gk_W_s 1 (pc1 := 253) (l1 := [some (.ref 27), some (.int x1), none, some (.int x3), some (.int x4), some (.int 0), none]) (st1 := [.int x3, .int (w_i w7 26 12), .ref 35]) rfl ?_
            obtain ⟨hb16, h⟩ := h
            refine gk_W_h (i := .iastore) 254 rfl rfl (h_as (a := 34) (t := 0) hS8 ly_34 hb16 rfl) rfl ?_
            refine gk_W_s 2 (pc1 := 256) (l1 := [some (.ref 27), some (.int x1), none, some (.int x3), some (.int x4), some (.int 0), none]) (st1 := [.ref 27, .ref 27]) rfl ?_
            refine gk_W_h (i := .getfield 100) 259 rfl rfl (h_gi (a := 26) (k := 12) (sh_as hS8 ly_34 ((w_i w7 26 12).toNatClampNeg) x3) ly_26 rfl) rfl ?_
            refine gk_W_s 2 (pc1 := 261) (l1 := [some (.ref 27), some (.int x1), none, some (.int x3), some (.int x4), some (.int 0), none]) (st1 := [.int ((w_i (w_sa w7 34 ((w_a w7 34).set (w_i w7 26 12).toNatClampNeg x3)) 26 12) + 1), .ref 27]) rfl ?_
            refine gk_W_h (i := .putfield 100) 264 rfl rfl (h_pi (a := 26) (k := 12) (x := (w_i (w_sa w7 34 ((w_a w7 34).set (w_i w7 26 12).toNatClampNeg x3)) 26 12) + 1) (sh_as hS8 ly_34 ((w_i w7 26 12).toNatClampNeg) x3) ly_26 rfl rfl) rfl ?_
            refine gk_W_s 4 (pc1 := 275) (l1 := [some (.ref 27), some (.int x1), none, some (.int x3), some (.int x4), some (.int 0), none]) (st1 := [.int x1, .ref 27]) rfl ?_
            obtain ⟨v18, w19, hE17, hS20, h⟩ := h
            refine gk_W_c (i := .invokevirtual 155) [.int v18] 278 rfl rfl (c_v (a := 26) (sh_si (sh_as hS8 ly_34 ((w_i w7 26 12).toNatClampNeg) x3) ly_26 (k := 12) rfl ((w_i (w_sa w7 34 ((w_a w7 34).set (w_i w7 26 12).toNatClampNeg x3)) 26 12) + 1)) ly_26 rfl rfl (Nat.le_of_ble_eq_true rfl)) hE17 rfl rfl ?_
            refine gk_W_s 3 (pc1 := 127) (l1 := [some (.ref 27), some (.int x1), none, some (.int x3), some (.int (x4 + 1)), some (.int 0), none]) (st1 := []) rfl ?_
            exact gk_W_le (gk_le_s (gk_le_s (gk_le_s (gk_le_s (gk_le_s (gk_le_n (gk_le_s (gk_le_0)))))))) h
          · have h := h.2 hp15
            refine gk_W_s 7 (pc1 := 197) (l1 := [some (.ref 27), some (.int x1), none, some (.int x3), some (.int x4), some (.int 1), some (.int 1)]) (st1 := []) rfl ?_
            exact h
      · have h := h.2 hp4
        refine gk_W_s 3 (pc1 := 127) (l1 := [some (.ref 27), some (.int x1), none, some (.int x3), some (.int (x4 + 1)), none, none]) (st1 := []) rfl ?_
        exact h
set_option maxRecDepth 8000 in
/-- GrammarDeskModel.unwind(I)V, at 197 -/
theorem sg_184_197 {d : Nat} {rr : List gk_S} {w w' : gk_Wd} {r : gk_Res} (hS : gk_Sh rr w) (x1 : Int32) (x3 : Int32) (x4 : Int32) (x5 : Int32) (x6 : Int32)
    (h : (((w_i w 26 12) ≤ x6 → (∃ (v3 : Int32), ∃ (w4 : gk_Wd), gk_E (d + 1) 149 [.ref 27, .int x3] (w_si w 26 12 ((w_i w 26 12) - 1)) (.inl (some (.int v3))) w4 ∧ gk_Sh rr w4 ∧ (gk_out (w_i w4 26 12) 24 = false ∧ ((x5 = 0 → (∃ (v9 : Int32), ∃ (w10 : gk_Wd), gk_E (d + 1) 149 [.ref 27, .int x1] (w_si (w_sa w4 34 ((w_a w4 34).set (w_i w4 26 12).toNatClampNeg x3)) 26 12 ((w_i (w_sa w4 34 ((w_a w4 34).set (w_i w4 26 12).toNatClampNeg x3)) 26 12) + 1)) (.inl (some (.int v9))) w10 ∧ gk_Sh rr w10 ∧ gk_W none (d + 2) 184 127 [some (.ref 27), some (.int x1), none, some (.int x3), some (.int (x4 + 1)), none, none] [] w10 r w')) ∧ (¬ (x5 = 0) → (∃ (v13 : Int32), ∃ (w14 : gk_Wd), gk_E (d + 1) 149 [.ref 27, .int x3] (w_si (w_sa w4 34 ((w_a w4 34).set (w_i w4 26 12).toNatClampNeg x3)) 26 12 ((w_i (w_sa w4 34 ((w_a w4 34).set (w_i w4 26 12).toNatClampNeg x3)) 26 12) + 1)) (.inl (some (.int v13))) w14 ∧ gk_Sh rr w14 ∧ gk_W none (d + 2) 184 127 [some (.ref 27), some (.int x1), none, some (.int x3), some (.int (x4 + 1)), none, none] [] w14 r w')))))) ∧ (¬ ((w_i w 26 12) ≤ x6) → (gk_out x6 24 = false ∧ (gk_out (x6 - 1) 24 = false ∧ gk_W none (d + 2) 184 197 [some (.ref 27), some (.int x1), none, some (.int x3), some (.int x4), some (.int x5), some (.int (x6 + 1))] [] (w_sa w 34 ((w_a w 34).set (x6 - 1).toNatClampNeg ((w_a w 34).getD x6.toNatClampNeg 0))) r w'))))) :
    gk_W none (d + 2) 184 197 [some (.ref 27), some (.int x1), none, some (.int x3), some (.int x4), some (.int x5), some (.int x6)] [] w r w' := by
  refine gk_W_s 2 (pc1 := 200) (l1 := [some (.ref 27), some (.int x1), none, some (.int x3), some (.int x4), some (.int x5), some (.int x6)]) (st1 := [.ref 27, .int x6]) rfl ?_
  refine gk_W_h (i := .getfield 100) 203 rfl rfl (h_gi (a := 26) (k := 12) hS ly_26 rfl) rfl ?_
  refine gk_W_b 1 ((w_i w 26 12) ≤ x6) (t := 228) (e := 206) (l1 := [some (.ref 27), some (.int x1), none, some (.int x3), some (.int x4), some (.int x5), some (.int x6)]) (st1 := []) rfl (fun hp1 => ?_) (fun hp1 => ?_)
  · have h := h.1 hp1
    refine gk_W_s 2 (pc1 := 230) (l1 := [some (.ref 27), some (.int x1), none, some (.int x3), some (.int x4), some (.int x5), some (.int x6)]) (st1 := [.ref 27, .ref 27]) rfl ?_
    refine gk_W_h (i := .getfield 100) 233 rfl rfl (h_gi (a := 26) (k := 12) hS ly_26 rfl) rfl ?_
    refine gk_W_s 2 (pc1 := 235) (l1 := [some (.ref 27), some (.int x1), none, some (.int x3), some (.int x4), some (.int x5), some (.int x6)]) (st1 := [.int ((w_i w 26 12) - 1), .ref 27]) rfl ?_
    refine gk_W_h (i := .putfield 100) 238 rfl rfl (h_pi (a := 26) (k := 12) (x := (w_i w 26 12) - 1) hS ly_26 rfl rfl) rfl ?_
    refine gk_W_s 2 (pc1 := 240) (l1 := [some (.ref 27), some (.int x1), none, some (.int x3), some (.int x4), some (.int x5), some (.int x6)]) (st1 := [.int x3, .ref 27]) rfl ?_
    obtain ⟨v3, w4, hE2, hS5, h⟩ := h
    refine gk_W_c (i := .invokevirtual 155) [.int v3] 243 rfl rfl (c_v (a := 26) (sh_si hS ly_26 (k := 12) rfl ((w_i w 26 12) - 1)) ly_26 rfl rfl (Nat.le_of_ble_eq_true rfl)) hE2 rfl rfl ?_
    refine gk_W_s 2 (pc1 := 245) (l1 := [some (.ref 27), some (.int x1), none, some (.int x3), some (.int x4), some (.int x5), some (.int x6)]) (st1 := [.ref 27]) rfl ?_
    refine gk_W_h (i := .getfield 36) 248 rfl rfl (h_gr (a := 26) (k := 13) (m := 35) hS5 ly_26 rfl) rfl ?_
    refine gk_W_s 1 (pc1 := 249) (l1 := [some (.ref 27), some (.int x1), none, some (.int x3), some (.int x4), some (.int x5), some (.int x6)]) (st1 := [.ref 27, .ref 35]) rfl ?_
    refine gk_W_h (i := .getfield 100) 252 rfl rfl (h_gi (a := 26) (k := 12) hS5 ly_26 rfl) rfl ?_
    refine gk_W_s 1 (pc1 := 253) (l1 := [some (.ref 27), some (.int x1), none, some (.int x3), some (.int x4), some (.int x5), some (.int x6)]) (st1 := [.int x3, .int (w_i w4 26 12), .ref 35]) rfl ?_
    obtain ⟨hb6, h⟩ := h
    refine gk_W_h (i := .iastore) 254 rfl rfl (h_as (a := 34) (t := 0) hS5 ly_34 hb6 rfl) rfl ?_
    refine gk_W_s 2 (pc1 := 256) (l1 := [some (.ref 27), some (.int x1), none, some (.int x3), some (.int x4), some (.int x5), some (.int x6)]) (st1 := [.ref 27, .ref 27]) rfl ?_
    refine gk_W_h (i := .getfield 100) 259 rfl rfl (h_gi (a := 26) (k := 12) (sh_as hS5 ly_34 ((w_i w4 26 12).toNatClampNeg) x3) ly_26 rfl) rfl ?_
    refine gk_W_s 2 (pc1 := 261) (l1 := [some (.ref 27), some (.int x1), none, some (.int x3), some (.int x4), some (.int x5), some (.int x6)]) (st1 := [.int ((w_i (w_sa w4 34 ((w_a w4 34).set (w_i w4 26 12).toNatClampNeg x3)) 26 12) + 1), .ref 27]) rfl ?_
    refine gk_W_h (i := .putfield 100) 264 rfl rfl (h_pi (a := 26) (k := 12) (x := (w_i (w_sa w4 34 ((w_a w4 34).set (w_i w4 26 12).toNatClampNeg x3)) 26 12) + 1) (sh_as hS5 ly_34 ((w_i w4 26 12).toNatClampNeg) x3) ly_26 rfl rfl) rfl ?_
    refine gk_W_b 3 (x5 = 0) (t := 274) (e := 270) (l1 := [some (.ref 27), some (.int x1), none, some (.int x3), some (.int x4), some (.int x5), some (.int x6)]) (st1 := [.ref 27]) rfl (fun hp7 => ?_) (fun hp7 => ?_)
    · have h := h.1 hp7
      refine gk_W_s 1 (pc1 := 275) (l1 := [some (.ref 27), some (.int x1), none, some (.int x3), some (.int x4), some (.int x5), some (.int x6)]) (st1 := [.int x1, .ref 27]) rfl ?_
      obtain ⟨v9, w10, hE8, hS11, h⟩ := h
      refine gk_W_c (i := .invokevirtual 155) [.int v9] 278 rfl rfl (c_v (a := 26) (sh_si (sh_as hS5 ly_34 ((w_i w4 26 12).toNatClampNeg) x3) ly_26 (k := 12) rfl ((w_i (w_sa w4 34 ((w_a w4 34).set (w_i w4 26 12).toNatClampNeg x3)) 26 12) + 1)) ly_26 rfl rfl (Nat.le_of_ble_eq_true rfl)) hE8 rfl rfl ?_
      refine gk_W_s 3 (pc1 := 127) (l1 := [some (.ref 27), some (.int x1), none, some (.int x3), some (.int (x4 + 1)), some (.int x5), some (.int x6)]) (st1 := []) rfl ?_
      exact gk_W_le (gk_le_s (gk_le_s (gk_le_s (gk_le_s (gk_le_s (gk_le_n (gk_le_n (gk_le_0)))))))) h
    · have h := h.2 hp7
      refine gk_W_s 2 (pc1 := 275) (l1 := [some (.ref 27), some (.int x1), none, some (.int x3), some (.int x4), some (.int x5), some (.int x6)]) (st1 := [.int x3, .ref 27]) rfl ?_
      obtain ⟨v13, w14, hE12, hS15, h⟩ := h
      refine gk_W_c (i := .invokevirtual 155) [.int v13] 278 rfl rfl (c_v (a := 26) (sh_si (sh_as hS5 ly_34 ((w_i w4 26 12).toNatClampNeg) x3) ly_26 (k := 12) rfl ((w_i (w_sa w4 34 ((w_a w4 34).set (w_i w4 26 12).toNatClampNeg x3)) 26 12) + 1)) ly_26 rfl rfl (Nat.le_of_ble_eq_true rfl)) hE12 rfl rfl ?_
      refine gk_W_s 3 (pc1 := 127) (l1 := [some (.ref 27), some (.int x1), none, some (.int x3), some (.int (x4 + 1)), some (.int x5), some (.int x6)]) (st1 := []) rfl ?_
      exact gk_W_le (gk_le_s (gk_le_s (gk_le_s (gk_le_s (gk_le_s (gk_le_n (gk_le_n (gk_le_0)))))))) h
  · have h := h.2 hp1
    refine gk_W_s 1 (pc1 := 207) (l1 := [some (.ref 27), some (.int x1), none, some (.int x3), some (.int x4), some (.int x5), some (.int x6)]) (st1 := [.ref 27]) rfl ?_
    refine gk_W_h (i := .getfield 36) 210 rfl rfl (h_gr (a := 26) (k := 13) (m := 35) hS ly_26 rfl) rfl ?_
    refine gk_W_s 4 (pc1 := 215) (l1 := [some (.ref 27), some (.int x1), none, some (.int x3), some (.int x4), some (.int x5), some (.int x6)]) (st1 := [.ref 27, .int (x6 - 1), .ref 35]) rfl ?_
    refine gk_W_h (i := .getfield 36) 218 rfl rfl (h_gr (a := 26) (k := 13) (m := 35) hS ly_26 rfl) rfl ?_
    refine gk_W_s 1 (pc1 := 220) (l1 := [some (.ref 27), some (.int x1), none, some (.int x3), some (.int x4), some (.int x5), some (.int x6)]) (st1 := [.int x6, .ref 35, .int (x6 - 1), .ref 35]) rfl ?_
    obtain ⟨hb16, h⟩ := h
    refine gk_W_h (i := .iaload) 221 rfl rfl (h_al (a := 34) (scr := none) hS ly_34 hb16) rfl ?_
    obtain ⟨hb17, h⟩ := h
    refine gk_W_h (i := .iastore) 222 rfl rfl (h_as (a := 34) (t := 0) hS ly_34 hb17 rfl) rfl ?_
    refine gk_W_s 2 (pc1 := 197) (l1 := [some (.ref 27), some (.int x1), none, some (.int x3), some (.int x4), some (.int x5), some (.int (x6 + 1))]) (st1 := []) rfl ?_
    exact h
set_option maxRecDepth 8000 in
/-- GrammarDeskModel.freeVariable()I, at 0 -/
theorem sg_186_0 {d : Nat} {rr : List gk_S} {w w' : gk_Wd} {r : gk_Res} (hS : gk_Sh rr w)
    (h : gk_W none (d + 1) 186 2 [some (.ref 27), some (.int 0), none, none, none] [] w r w') :
    gk_W none (d + 1) 186 0 [some (.ref 27), none, none, none, none] [] w r w' := by
  refine gk_W_s 2 (pc1 := 2) (l1 := [some (.ref 27), some (.int 0), none, none, none]) (st1 := []) rfl ?_
  exact h
set_option maxRecDepth 8000 in
/-- GrammarDeskModel.freeVariable()I, at 2 -/
theorem sg_186_2 {d : Nat} {rr : List gk_S} {w w' : gk_Wd} {r : gk_Res} (hS : gk_Sh rr w) (x1 : Int32)
    (h : ((16 ≤ x1 → (r = .inl (some (.int ((-1)))) ∧ w' = w)) ∧ (¬ (16 ≤ x1) → gk_W none (d + 1) 186 12 [some (.ref 27), some (.int x1), some (.int 0), some (.int 0), none] [] w r w'))) :
    gk_W none (d + 1) 186 2 [some (.ref 27), some (.int x1), none, none, none] [] w r w' := by
  refine gk_W_b 3 (16 ≤ x1) (t := 99) (e := 8) (l1 := [some (.ref 27), some (.int x1), none, none, none]) (st1 := []) rfl (fun hp1 => ?_) (fun hp1 => ?_)
  · have h := h.1 hp1
    refine gk_W_s 1 (pc1 := 100) (l1 := [some (.ref 27), some (.int x1), none, none, none]) (st1 := [.int ((-1))]) rfl ?_
    obtain ⟨rfl, rfl⟩ := h
    exact gk_W_r (i := .ireturn) rfl rfl rfl
  · have h := h.2 hp1
    refine gk_W_s 4 (pc1 := 12) (l1 := [some (.ref 27), some (.int x1), some (.int 0), some (.int 0), none]) (st1 := []) rfl ?_
    exact h
set_option maxRecDepth 8000 in
/-- GrammarDeskModel.freeVariable()I, at 12 -/
theorem sg_186_12 {d : Nat} {rr : List gk_S} {w w' : gk_Wd} {r : gk_Res} (hS : gk_Sh rr w) (x1 : Int32) (x2 : Int32) (x3 : Int32)
    (h : (((w_i w 26 4) ≤ x3 → ((¬ x2 = 0 → gk_W none (d + 1) 186 2 [some (.ref 27), some (.int (x1 + 1)), none, none, none] [] w r w') ∧ (x2 = 0 → (r = .inl (some (.int x1)) ∧ w' = w)))) ∧ (¬ ((w_i w 26 4) ≤ x3) → ((¬ x2 = 0 → gk_W none (d + 1) 186 43 [some (.ref 27), some (.int x1), some (.int 1), some (.int x3), some (.int 0)] [] w r w') ∧ (x2 = 0 → (gk_out x3 64 = false ∧ ((¬ ((w_a w 28).getD x3.toNatClampNeg 0) = x1 → gk_W none (d + 1) 186 43 [some (.ref 27), some (.int x1), some (.int 0), some (.int x3), some (.int 0)] [] w r w') ∧ (((w_a w 28).getD x3.toNatClampNeg 0) = x1 → gk_W none (d + 1) 186 43 [some (.ref 27), some (.int x1), some (.int 1), some (.int x3), some (.int 0)] [] w r w')))))))) :
    gk_W none (d + 1) 186 12 [some (.ref 27), some (.int x1), some (.int x2), some (.int x3), none] [] w r w' := by
  refine gk_W_s 2 (pc1 := 14) (l1 := [some (.ref 27), some (.int x1), some (.int x2), some (.int x3), none]) (st1 := [.ref 27, .int x3]) rfl ?_
  refine gk_W_h (i := .getfield 111) 17 rfl rfl (h_gi (a := 26) (k := 4) hS ly_26 rfl) rfl ?_
  refine gk_W_b 1 ((w_i w 26 4) ≤ x3) (t := 87) (e := 20) (l1 := [some (.ref 27), some (.int x1), some (.int x2), some (.int x3), none]) (st1 := []) rfl (fun hp1 => ?_) (fun hp1 => ?_)
  · have h := h.1 hp1
    refine gk_W_b 2 (¬ x2 = 0) (t := 93) (e := 91) (l1 := [some (.ref 27), some (.int x1), some (.int x2), some (.int x3), none]) (st1 := []) rfl (fun hp2 => ?_) (fun hp2 => ?_)
    · have h := h.1 hp2
      refine gk_W_s 2 (pc1 := 2) (l1 := [some (.ref 27), some (.int (x1 + 1)), some (.int x2), some (.int x3), none]) (st1 := []) rfl ?_
      exact gk_W_le (gk_le_s (gk_le_s (gk_le_n (gk_le_n (gk_le_s (gk_le_0)))))) h
    · have h := h.2 (Decidable.not_not.mp hp2)
      refine gk_W_s 1 (pc1 := 92) (l1 := [some (.ref 27), some (.int x1), some (.int x2), some (.int x3), none]) (st1 := [.int x1]) rfl ?_
      obtain ⟨rfl, rfl⟩ := h
      exact gk_W_r (i := .ireturn) rfl rfl rfl
  · have h := h.2 hp1
    refine gk_W_b 2 (¬ x2 = 0) (t := 34) (e := 24) (l1 := [some (.ref 27), some (.int x1), some (.int x2), some (.int x3), none]) (st1 := []) rfl (fun hp3 => ?_) (fun hp3 => ?_)
    · have h := h.1 hp3
      refine gk_W_s 5 (pc1 := 43) (l1 := [some (.ref 27), some (.int x1), some (.int 1), some (.int x3), some (.int 0)]) (st1 := []) rfl ?_
      exact h
    · have h := h.2 (Decidable.not_not.mp hp3)
      refine gk_W_s 1 (pc1 := 25) (l1 := [some (.ref 27), some (.int x1), some (.int x2), some (.int x3), none]) (st1 := [.ref 27]) rfl ?_
      refine gk_W_h (i := .getfield 17) 28 rfl rfl (h_gr (a := 26) (k := 5) (m := 29) hS ly_26 rfl) rfl ?_
      refine gk_W_s 1 (pc1 := 29) (l1 := [some (.ref 27), some (.int x1), some (.int x2), some (.int x3), none]) (st1 := [.int x3, .ref 29]) rfl ?_
      obtain ⟨hb4, h⟩ := h
      refine gk_W_h (i := .iaload) 30 rfl rfl (h_al (a := 28) (scr := none) hS ly_28 hb4) rfl ?_
      refine gk_W_b 2 (¬ ((w_a w 28).getD x3.toNatClampNeg 0) = x1) (t := 38) (e := 34) (l1 := [some (.ref 27), some (.int x1), some (.int x2), some (.int x3), none]) (st1 := []) rfl (fun hp5 => ?_) (fun hp5 => ?_)
      · have h := h.1 hp5
        refine gk_W_s 4 (pc1 := 43) (l1 := [some (.ref 27), some (.int x1), some (.int 0), some (.int x3), some (.int 0)]) (st1 := []) rfl ?_
        exact h
      · have h := h.2 (Decidable.not_not.mp hp5)
        refine gk_W_s 5 (pc1 := 43) (l1 := [some (.ref 27), some (.int x1), some (.int 1), some (.int x3), some (.int 0)]) (st1 := []) rfl ?_
        exact h
set_option maxRecDepth 8000 in
/-- GrammarDeskModel.freeVariable()I, at 43 -/
theorem sg_186_43 {d : Nat} {rr : List gk_S} {w w' : gk_Wd} {r : gk_Res} (hS : gk_Sh rr w) (x1 : Int32) (x2 : Int32) (x3 : Int32) (x4 : Int32)
    (h : (gk_out x3 64 = false ∧ ((((w_a w 29).getD x3.toNatClampNeg 0) ≤ x4 → gk_W none (d + 1) 186 12 [some (.ref 27), some (.int x1), some (.int x2), some (.int (x3 + 1)), none] [] w r w') ∧ (¬ (((w_a w 29).getD x3.toNatClampNeg 0) ≤ x4) → ((¬ x2 = 0 → gk_W none (d + 1) 186 43 [some (.ref 27), some (.int x1), some (.int 1), some (.int x3), some (.int (x4 + 1))] [] w r w') ∧ (x2 = 0 → ((gk_out ((10 * x3) + x4) 640 = false) ∧ ((¬ (f_151 w x3 x4) = x1 → gk_W none (d + 1) 186 43 [some (.ref 27), some (.int x1), some (.int 0), some (.int x3), some (.int (x4 + 1))] [] w r w') ∧ ((f_151 w x3 x4) = x1 → gk_W none (d + 1) 186 43 [some (.ref 27), some (.int x1), some (.int 1), some (.int x3), some (.int (x4 + 1))] [] w r w'))))))))) :
    gk_W none (d + 1) 186 43 [some (.ref 27), some (.int x1), some (.int x2), some (.int x3), some (.int x4)] [] w r w' := by
  refine gk_W_s 2 (pc1 := 46) (l1 := [some (.ref 27), some (.int x1), some (.int x2), some (.int x3), some (.int x4)]) (st1 := [.ref 27, .int x4]) rfl ?_
  refine gk_W_h (i := .getfield 21) 49 rfl rfl (h_gr (a := 26) (k := 6) (m := 30) hS ly_26 rfl) rfl ?_
  refine gk_W_s 1 (pc1 := 50) (l1 := [some (.ref 27), some (.int x1), some (.int x2), some (.int x3), some (.int x4)]) (st1 := [.int x3, .ref 30, .int x4]) rfl ?_
  obtain ⟨hb1, h⟩ := h
  refine gk_W_h (i := .iaload) 51 rfl rfl (h_al (a := 29) (scr := none) hS ly_29 hb1) rfl ?_
  refine gk_W_b 1 (((w_a w 29).getD x3.toNatClampNeg 0) ≤ x4) (t := 81) (e := 54) (l1 := [some (.ref 27), some (.int x1), some (.int x2), some (.int x3), some (.int x4)]) (st1 := []) rfl (fun hp2 => ?_) (fun hp2 => ?_)
  · have h := h.1 hp2
    refine gk_W_s 2 (pc1 := 12) (l1 := [some (.ref 27), some (.int x1), some (.int x2), some (.int (x3 + 1)), some (.int x4)]) (st1 := []) rfl ?_
    exact gk_W_le (gk_le_s (gk_le_s (gk_le_s (gk_le_s (gk_le_n (gk_le_0)))))) h
  · have h := h.2 hp2
    refine gk_W_b 2 (¬ x2 = 0) (t := 69) (e := 58) (l1 := [some (.ref 27), some (.int x1), some (.int x2), some (.int x3), some (.int x4)]) (st1 := []) rfl (fun hp3 => ?_) (fun hp3 => ?_)
    · have h := h.1 hp3
      refine gk_W_s 5 (pc1 := 43) (l1 := [some (.ref 27), some (.int x1), some (.int 1), some (.int x3), some (.int (x4 + 1))]) (st1 := []) rfl ?_
      exact h
    · have h := h.2 (Decidable.not_not.mp hp3)
      refine gk_W_s 3 (pc1 := 62) (l1 := [some (.ref 27), some (.int x1), some (.int x2), some (.int x3), some (.int x4)]) (st1 := [.int x4, .int x3, .ref 27]) rfl ?_
      obtain ⟨hb4, h⟩ := h
      refine gk_W_c (i := .invokevirtual 103) [.int (f_151 w x3 x4)] 65 rfl rfl (c_v (a := 26) hS ly_26 rfl rfl (Nat.le_of_ble_eq_true rfl)) (f_151_E hS x3 x4 hb4) rfl rfl ?_
      refine gk_W_b 2 (¬ (f_151 w x3 x4) = x1) (t := 73) (e := 69) (l1 := [some (.ref 27), some (.int x1), some (.int x2), some (.int x3), some (.int x4)]) (st1 := []) rfl (fun hp5 => ?_) (fun hp5 => ?_)
      · have h := h.1 hp5
        refine gk_W_s 4 (pc1 := 43) (l1 := [some (.ref 27), some (.int x1), some (.int 0), some (.int x3), some (.int (x4 + 1))]) (st1 := []) rfl ?_
        exact h
      · have h := h.2 (Decidable.not_not.mp hp5)
        refine gk_W_s 5 (pc1 := 43) (l1 := [some (.ref 27), some (.int x1), some (.int 1), some (.int x3), some (.int (x4 + 1))]) (st1 := []) rfl ?_
        exact h
set_option maxRecDepth 8000 in
/-- GrammarDeskModel.nextToReplace()I, at 0 -/
theorem sg_187_0 {d : Nat} {rr : List gk_S} {w w' : gk_Wd} {r : gk_Res} (hS : gk_Sh rr w)
    (h : gk_W none (d + 1) 187 6 [some (.ref 27), some (.int ((-1))), some (.int ((-1))), some (.int 0)] [] w r w') :
    gk_W none (d + 1) 187 0 [some (.ref 27), none, none, none] [] w r w' := by
  refine gk_W_s 6 (pc1 := 6) (l1 := [some (.ref 27), some (.int ((-1))), some (.int ((-1))), some (.int 0)]) (st1 := []) rfl ?_
  exact h
set_option maxRecDepth 8000 in
/-- GrammarDeskModel.nextToReplace()I, at 6 -/
theorem sg_187_6 {d : Nat} {rr : List gk_S} {w w' : gk_Wd} {r : gk_Res} (hS : gk_Sh rr w) (x1 : Int32) (x2 : Int32) (x3 : Int32)
    (h : (((w_i w 26 4) ≤ x3 → ((x1 < 0 → (r = .inl (some (.int x2)) ∧ w' = w)) ∧ (¬ (x1 < 0) → (r = .inl (some (.int x1)) ∧ w' = w)))) ∧ (¬ ((w_i w 26 4) ≤ x3) → (gk_out x3 64 = false ∧ ((((w_a w 29).getD x3.toNatClampNeg 0) = 0 → gk_W none (d + 1) 187 6 [some (.ref 27), some (.int x1), some (.int x2), some (.int (x3 + 1))] [] w r w') ∧ (¬ (((w_a w 29).getD x3.toNatClampNeg 0) = 0) → ((gk_out ((10 * x3) + 0) 640 = false) ∧ ((¬ (f_163 (f_151 w x3 0)) = 0 → (gk_out x3 64 = false ∧ (gk_out ((w_a w 28).getD x3.toNatClampNeg 0) 16 = false ∧ ((((w_a w 35).getD ((w_a w 28).getD x3.toNatClampNeg 0).toNatClampNeg 0) = 0 → ((0 ≤ x2 → gk_W none (d + 1) 187 6 [some (.ref 27), some (.int x1), some (.int x2), some (.int (x3 + 1))] [] w r w') ∧ (¬ (0 ≤ x2) → gk_W none (d + 1) 187 6 [some (.ref 27), some (.int x1), some (.int x3), some (.int (x3 + 1))] [] w r w'))) ∧ (¬ (((w_a w 35).getD ((w_a w 28).getD x3.toNatClampNeg 0).toNatClampNeg 0) = 0) → ((0 ≤ x2 → gk_W none (d + 1) 187 6 [some (.ref 27), some (.int x3), some (.int x2), some (.int (x3 + 1))] [] w r w') ∧ (¬ (0 ≤ x2) → gk_W none (d + 1) 187 6 [some (.ref 27), some (.int x3), some (.int x3), some (.int (x3 + 1))] [] w r w'))))))) ∧ ((f_163 (f_151 w x3 0)) = 0 → gk_W none (d + 1) 187 6 [some (.ref 27), some (.int x1), some (.int x2), some (.int (x3 + 1))] [] w r w'))))))))) :
    gk_W none (d + 1) 187 6 [some (.ref 27), some (.int x1), some (.int x2), some (.int x3)] [] w r w' := by
  refine gk_W_s 2 (pc1 := 8) (l1 := [some (.ref 27), some (.int x1), some (.int x2), some (.int x3)]) (st1 := [.ref 27, .int x3]) rfl ?_
  refine gk_W_h (i := .getfield 111) 11 rfl rfl (h_gi (a := 26) (k := 4) hS ly_26 rfl) rfl ?_
  refine gk_W_b 1 ((w_i w 26 4) ≤ x3) (t := 66) (e := 14) (l1 := [some (.ref 27), some (.int x1), some (.int x2), some (.int x3)]) (st1 := []) rfl (fun hp1 => ?_) (fun hp1 => ?_)
  · have h := h.1 hp1
    refine gk_W_b 2 (x1 < 0) (t := 74) (e := 70) (l1 := [some (.ref 27), some (.int x1), some (.int x2), some (.int x3)]) (st1 := []) rfl (fun hp2 => ?_) (fun hp2 => ?_)
    · have h := h.1 hp2
      refine gk_W_s 1 (pc1 := 75) (l1 := [some (.ref 27), some (.int x1), some (.int x2), some (.int x3)]) (st1 := [.int x2]) rfl ?_
      obtain ⟨rfl, rfl⟩ := h
      exact gk_W_r (i := .ireturn) rfl rfl rfl
    · have h := h.2 hp2
      refine gk_W_s 2 (pc1 := 75) (l1 := [some (.ref 27), some (.int x1), some (.int x2), some (.int x3)]) (st1 := [.int x1]) rfl ?_
      obtain ⟨rfl, rfl⟩ := h
      exact gk_W_r (i := .ireturn) rfl rfl rfl
  · have h := h.2 hp1
    refine gk_W_s 1 (pc1 := 15) (l1 := [some (.ref 27), some (.int x1), some (.int x2), some (.int x3)]) (st1 := [.ref 27]) rfl ?_
    refine gk_W_h (i := .getfield 21) 18 rfl rfl (h_gr (a := 26) (k := 6) (m := 30) hS ly_26 rfl) rfl ?_
    refine gk_W_s 1 (pc1 := 19) (l1 := [some (.ref 27), some (.int x1), some (.int x2), some (.int x3)]) (st1 := [.int x3, .ref 30]) rfl ?_
    obtain ⟨hb3, h⟩ := h
    refine gk_W_h (i := .iaload) 20 rfl rfl (h_al (a := 29) (scr := none) hS ly_29 hb3) rfl ?_
    refine gk_W_b 1 (((w_a w 29).getD x3.toNatClampNeg 0) = 0) (t := 60) (e := 23) (l1 := [some (.ref 27), some (.int x1), some (.int x2), some (.int x3)]) (st1 := []) rfl (fun hp4 => ?_) (fun hp4 => ?_)
    · have h := h.1 hp4
      refine gk_W_s 2 (pc1 := 6) (l1 := [some (.ref 27), some (.int x1), some (.int x2), some (.int (x3 + 1))]) (st1 := []) rfl ?_
      exact h
    · have h := h.2 hp4
      refine gk_W_s 3 (pc1 := 26) (l1 := [some (.ref 27), some (.int x1), some (.int x2), some (.int x3)]) (st1 := [.int 0, .int x3, .ref 27]) rfl ?_
      obtain ⟨hb5, h⟩ := h
      refine gk_W_c (i := .invokevirtual 103) [.int (f_151 w x3 0)] 29 rfl rfl (c_v (a := 26) hS ly_26 rfl rfl (Nat.le_of_ble_eq_true rfl)) (f_151_E hS x3 0 hb5) rfl rfl ?_
      refine gk_W_c (i := .invokestatic 166) [.int (f_163 (f_151 w x3 0))] 32 rfl rfl rfl (f_163_E (f_151 w x3 0)) rfl rfl ?_
      refine gk_W_b 1 (¬ (f_163 (f_151 w x3 0)) = 0) (t := 38) (e := 35) (l1 := [some (.ref 27), some (.int x1), some (.int x2), some (.int x3)]) (st1 := []) rfl (fun hp6 => ?_) (fun hp6 => ?_)
      · have h := h.1 hp6
        refine gk_W_s 1 (pc1 := 39) (l1 := [some (.ref 27), some (.int x1), some (.int x2), some (.int x3)]) (st1 := [.ref 27]) rfl ?_
        refine gk_W_h (i := .getfield 39) 42 rfl rfl (h_gr (a := 26) (k := 16) (m := 36) hS ly_26 rfl) rfl ?_
        refine gk_W_s 1 (pc1 := 43) (l1 := [some (.ref 27), some (.int x1), some (.int x2), some (.int x3)]) (st1 := [.ref 27, .ref 36]) rfl ?_
        refine gk_W_h (i := .getfield 17) 46 rfl rfl (h_gr (a := 26) (k := 5) (m := 29) hS ly_26 rfl) rfl ?_
        refine gk_W_s 1 (pc1 := 47) (l1 := [some (.ref 27), some (.int x1), some (.int x2), some (.int x3)]) (st1 := [.int x3, .ref 29, .ref 36]) rfl ?_
        obtain ⟨hb7, h⟩ := h
        refine gk_W_h (i := .iaload) 48 rfl rfl (h_al (a := 28) (scr := none) hS ly_28 hb7) rfl ?_
        obtain ⟨hb8, h⟩ := h
        refine gk_W_h (i := .baload) 49 rfl rfl (h_al (a := 35) (scr := none) hS ly_35 hb8) rfl ?_
        refine gk_W_b 1 (((w_a w 35).getD ((w_a w 28).getD x3.toNatClampNeg 0).toNatClampNeg 0) = 0) (t := 54) (e := 52) (l1 := [some (.ref 27), some (.int x1), some (.int x2), some (.int x3)]) (st1 := []) rfl (fun hp9 => ?_) (fun hp9 => ?_)
        · have h := h.1 hp9
          refine gk_W_b 2 (0 ≤ x2) (t := 60) (e := 58) (l1 := [some (.ref 27), some (.int x1), some (.int x2), some (.int x3)]) (st1 := []) rfl (fun hp10 => ?_) (fun hp10 => ?_)
          · have h := h.1 hp10
            refine gk_W_s 2 (pc1 := 6) (l1 := [some (.ref 27), some (.int x1), some (.int x2), some (.int (x3 + 1))]) (st1 := []) rfl ?_
            exact h
          · have h := h.2 hp10
            refine gk_W_s 4 (pc1 := 6) (l1 := [some (.ref 27), some (.int x1), some (.int x3), some (.int (x3 + 1))]) (st1 := []) rfl ?_
            exact h
        · have h := h.2 hp9
          refine gk_W_b 4 (0 ≤ x2) (t := 60) (e := 58) (l1 := [some (.ref 27), some (.int x3), some (.int x2), some (.int x3)]) (st1 := []) rfl (fun hp11 => ?_) (fun hp11 => ?_)
          · have h := h.1 hp11
            refine gk_W_s 2 (pc1 := 6) (l1 := [some (.ref 27), some (.int x3), some (.int x2), some (.int (x3 + 1))]) (st1 := []) rfl ?_
            exact h
          · have h := h.2 hp11
            refine gk_W_s 4 (pc1 := 6) (l1 := [some (.ref 27), some (.int x3), some (.int x3), some (.int (x3 + 1))]) (st1 := []) rfl ?_
            exact h
      · have h := h.2 (Decidable.not_not.mp hp6)
        refine gk_W_s 3 (pc1 := 6) (l1 := [some (.ref 27), some (.int x1), some (.int x2), some (.int (x3 + 1))]) (st1 := []) rfl ?_
        exact h
set_option maxRecDepth 8000 in
/-- GrammarDeskModel.name(I)V, at 0 -/
theorem sg_188_0 {d : Nat} {rr : List gk_S} {w w' : gk_Wd} {r : gk_Res} (hS : gk_Sh rr w) (x1 : Int32)
    (h : ((¬ (w_i w 26 14) = 0 → (r = .inl none ∧ w' = w)) ∧ ((w_i w 26 14) = 0 → (∃ (v3 : Int32), gk_E d 189 [.ref 27, .int x1] w (.inl (some (.int v3))) w ∧ ((¬ v3 = 0 → (∃ (v6 : Int32), gk_E d 186 [.ref 27] w (.inl (some (.int v6))) w ∧ ((0 ≤ v6 → (∃ (w9 : gk_Wd), gk_E d 148 [.ref 27] w (.inl none) w9 ∧ gk_Sh rr w9 ∧ gk_W none (d + 1) 188 42 [some (.ref 27), some (.int x1), some (.int v6), some (.int 0), none] [] (w_si w9 26 4 0) r w')) ∧ (¬ (0 ≤ v6) → (r = .inl none ∧ w' = w_si w 26 14 1))))) ∧ (v3 = 0 → (r = .inl none ∧ w' = w))))))) :
    gk_W none (d + 1) 188 0 [some (.ref 27), some (.int x1), none, none, none] [] w r w' := by
  refine gk_W_s 1 (pc1 := 1) (l1 := [some (.ref 27), some (.int x1), none, none, none]) (st1 := [.ref 27]) rfl ?_
  refine gk_W_h (i := .getfield 107) 4 rfl rfl (h_gi (a := 26) (k := 14) hS ly_26 rfl) rfl ?_
  refine gk_W_b 1 (¬ (w_i w 26 14) = 0) (t := 15) (e := 7) (l1 := [some (.ref 27), some (.int x1), none, none, none]) (st1 := []) rfl (fun hp1 => ?_) (fun hp1 => ?_)
  · have h := h.1 hp1
    obtain ⟨rfl, rfl⟩ := h
    exact gk_W_r (i := .return_) rfl rfl rfl
  · have h := h.2 (Decidable.not_not.mp hp1)
    refine gk_W_s 2 (pc1 := 9) (l1 := [some (.ref 27), some (.int x1), none, none, none]) (st1 := [.int x1, .ref 27]) rfl ?_
    obtain ⟨v3, hE2, h⟩ := h
    refine gk_W_c (i := .invokevirtual 225) [.int v3] 12 rfl rfl (c_v (a := 26) hS ly_26 rfl rfl (Nat.le_of_ble_eq_true rfl)) hE2 rfl rfl ?_
    refine gk_W_b 1 (¬ v3 = 0) (t := 16) (e := 15) (l1 := [some (.ref 27), some (.int x1), none, none, none]) (st1 := []) rfl (fun hp4 => ?_) (fun hp4 => ?_)
    · have h := h.1 hp4
      refine gk_W_s 1 (pc1 := 17) (l1 := [some (.ref 27), some (.int x1), none, none, none]) (st1 := [.ref 27]) rfl ?_
      obtain ⟨v6, hE5, h⟩ := h
      refine gk_W_c (i := .invokevirtual 222) [.int v6] 20 rfl rfl (c_v (a := 26) hS ly_26 rfl rfl (Nat.le_of_ble_eq_true rfl)) hE5 rfl rfl ?_
      refine gk_W_b 3 (0 ≤ v6) (t := 31) (e := 25) (l1 := [some (.ref 27), some (.int x1), some (.int v6), none, none]) (st1 := []) rfl (fun hp7 => ?_) (fun hp7 => ?_)
      · have h := h.1 hp7
        refine gk_W_s 1 (pc1 := 32) (l1 := [some (.ref 27), some (.int x1), some (.int v6), none, none]) (st1 := [.ref 27]) rfl ?_
        obtain ⟨w9, hE8, hS10, h⟩ := h
        refine gk_W_c (i := .invokevirtual 121) [] 35 rfl rfl (c_v (a := 26) hS ly_26 rfl rfl (Nat.le_of_ble_eq_true rfl)) hE8 rfl rfl ?_
        refine gk_W_s 2 (pc1 := 37) (l1 := [some (.ref 27), some (.int x1), some (.int v6), none, none]) (st1 := [.int 0, .ref 27]) rfl ?_
        refine gk_W_h (i := .putfield 111) 40 rfl rfl (h_pi (a := 26) (k := 4) (x := 0) hS10 ly_26 rfl rfl) rfl ?_
        refine gk_W_s 2 (pc1 := 42) (l1 := [some (.ref 27), some (.int x1), some (.int v6), some (.int 0), none]) (st1 := []) rfl ?_
        exact h
      · have h := h.2 hp7
        refine gk_W_s 2 (pc1 := 27) (l1 := [some (.ref 27), some (.int x1), some (.int v6), none, none]) (st1 := [.int 1, .ref 27]) rfl ?_
        refine gk_W_h (i := .putfield 107) 30 rfl rfl (h_pi (a := 26) (k := 14) (x := 1) hS ly_26 rfl rfl) rfl ?_
        obtain ⟨rfl, rfl⟩ := h
        exact gk_W_r (i := .return_) rfl rfl rfl
    · have h := h.2 (Decidable.not_not.mp hp4)
      obtain ⟨rfl, rfl⟩ := h
      exact gk_W_r (i := .return_) rfl rfl rfl
set_option maxRecDepth 8000 in
/-- GrammarDeskModel.name(I)V, at 42 -/
theorem sg_188_42 {d : Nat} {rr : List gk_S} {w w' : gk_Wd} {r : gk_Res} (hS : gk_Sh rr w) (x1 : Int32) (x2 : Int32) (x3 : Int32)
    (h : (((w_i w 26 8) ≤ x3 → (∃ (v3 : Int32), ∃ (w4 : gk_Wd), gk_E d 149 [.ref 27, .int x2] (w_sa (w_si w 26 12 1) 34 ((w_a (w_si w 26 12 1) 34).set 0 x1)) (.inl (some (.int v3))) w4 ∧ gk_Sh rr w4 ∧ (r = .inl none ∧ w' = w4))) ∧ (¬ ((w_i w 26 8) ≤ x3) → (∃ (v7 : Int32), ∃ (w8 : gk_Wd), gk_E d 171 [.ref 27, .int x3, .int 0] w (.inl (some (.int v7))) w8 ∧ gk_Sh rr w8 ∧ gk_W none (d + 1) 188 60 [some (.ref 27), some (.int x1), some (.int x2), some (.int x3), some (.int 1)] [] w8 r w')))) :
    gk_W none (d + 1) 188 42 [some (.ref 27), some (.int x1), some (.int x2), some (.int x3), none] [] w r w' := by
  refine gk_W_s 2 (pc1 := 44) (l1 := [some (.ref 27), some (.int x1), some (.int x2), some (.int x3), none]) (st1 := [.ref 27, .int x3]) rfl ?_
  refine gk_W_h (i := .getfield 124) 47 rfl rfl (h_gi (a := 26) (k := 8) hS ly_26 rfl) rfl ?_
  refine gk_W_b 1 ((w_i w 26 8) ≤ x3) (t := 111) (e := 50) (l1 := [some (.ref 27), some (.int x1), some (.int x2), some (.int x3), none]) (st1 := []) rfl (fun hp1 => ?_) (fun hp1 => ?_)
  · have h := h.1 hp1
    refine gk_W_s 2 (pc1 := 113) (l1 := [some (.ref 27), some (.int x1), some (.int x2), some (.int x3), none]) (st1 := [.int 1, .ref 27]) rfl ?_
    refine gk_W_h (i := .putfield 100) 116 rfl rfl (h_pi (a := 26) (k := 12) (x := 1) hS ly_26 rfl rfl) rfl ?_
    refine gk_W_s 1 (pc1 := 117) (l1 := [some (.ref 27), some (.int x1), some (.int x2), some (.int x3), none]) (st1 := [.ref 27]) rfl ?_
    refine gk_W_h (i := .getfield 36) 120 rfl rfl (h_gr (a := 26) (k := 13) (m := 35) (sh_si hS ly_26 (k := 12) rfl 1) ly_26 rfl) rfl ?_
    refine gk_W_s 2 (pc1 := 122) (l1 := [some (.ref 27), some (.int x1), some (.int x2), some (.int x3), none]) (st1 := [.int x1, .int 0, .ref 35]) rfl ?_
    refine gk_W_h (i := .iastore) 123 rfl rfl (h_as (a := 34) (t := 0) (sh_si hS ly_26 (k := 12) rfl 1) ly_34 rfl rfl) rfl ?_
    refine gk_W_s 2 (pc1 := 125) (l1 := [some (.ref 27), some (.int x1), some (.int x2), some (.int x3), none]) (st1 := [.int x2, .ref 27]) rfl ?_
    obtain ⟨v3, w4, hE2, hS5, h⟩ := h
    refine gk_W_c (i := .invokevirtual 155) [.int v3] 128 rfl rfl (c_v (a := 26) (sh_as (sh_si hS ly_26 (k := 12) rfl 1) ly_34 (0) x1) ly_26 rfl rfl (Nat.le_of_ble_eq_true rfl)) hE2 rfl rfl ?_
    refine gk_W_s 1 (pc1 := 129) (l1 := [some (.ref 27), some (.int x1), some (.int x2), some (.int x3), none]) (st1 := []) rfl ?_
    obtain ⟨rfl, rfl⟩ := h
    exact gk_W_r (i := .return_) rfl rfl rfl
  · have h := h.2 hp1
    refine gk_W_s 3 (pc1 := 53) (l1 := [some (.ref 27), some (.int x1), some (.int x2), some (.int x3), none]) (st1 := [.int 0, .int x3, .ref 27]) rfl ?_
    obtain ⟨v7, w8, hE6, hS9, h⟩ := h
    refine gk_W_c (i := .invokevirtual 189) [.int v7] 56 rfl rfl (c_v (a := 26) hS ly_26 rfl rfl (Nat.le_of_ble_eq_true rfl)) hE6 rfl rfl ?_
    refine gk_W_s 3 (pc1 := 60) (l1 := [some (.ref 27), some (.int x1), some (.int x2), some (.int x3), some (.int 1)]) (st1 := []) rfl ?_
    exact h
set_option maxRecDepth 8000 in
/-- GrammarDeskModel.name(I)V, at 60 -/
theorem sg_188_60 {d : Nat} {rr : List gk_S} {w w' : gk_Wd} {r : gk_Res} (hS : gk_Sh rr w) (x1 : Int32) (x2 : Int32) (x3 : Int32) (x4 : Int32)
    (h : (((w_i w 26 12) ≤ x4 → (gk_out x3 64 = false ∧ (∃ (v4 : Int32), ∃ (w5 : gk_Wd), gk_E d 149 [.ref 27, .int ((w_a w 31).getD x3.toNatClampNeg 0)] w (.inl (some (.int v4))) w5 ∧ gk_Sh rr w5 ∧ gk_W none (d + 1) 188 42 [some (.ref 27), some (.int x1), some (.int x2), some (.int (x3 + 1)), none] [] w5 r w'))) ∧ (¬ ((w_i w 26 12) ≤ x4) → (gk_out x4 24 = false ∧ ((¬ ((w_a w 34).getD x4.toNatClampNeg 0) = x1 → gk_W none (d + 1) 188 60 [some (.ref 27), some (.int x1), some (.int x2), some (.int x3), some (.int (x4 + 1))] [] w r w') ∧ (((w_a w 34).getD x4.toNatClampNeg 0) = x1 → (gk_out x4 24 = false ∧ gk_W none (d + 1) 188 60 [some (.ref 27), some (.int x1), some (.int x2), some (.int x3), some (.int (x4 + 1))] [] (w_sa w 34 ((w_a w 34).set x4.toNatClampNeg x2)) r w'))))))) :
    gk_W none (d + 1) 188 60 [some (.ref 27), some (.int x1), some (.int x2), some (.int x3), some (.int x4)] [] w r w' := by
  refine gk_W_s 2 (pc1 := 63) (l1 := [some (.ref 27), some (.int x1), some (.int x2), some (.int x3), some (.int x4)]) (st1 := [.ref 27, .int x4]) rfl ?_
  refine gk_W_h (i := .getfield 100) 66 rfl rfl (h_gi (a := 26) (k := 12) hS ly_26 rfl) rfl ?_
  refine gk_W_b 1 ((w_i w 26 12) ≤ x4) (t := 94) (e := 69) (l1 := [some (.ref 27), some (.int x1), some (.int x2), some (.int x3), some (.int x4)]) (st1 := []) rfl (fun hp1 => ?_) (fun hp1 => ?_)
  · have h := h.1 hp1
    refine gk_W_s 2 (pc1 := 96) (l1 := [some (.ref 27), some (.int x1), some (.int x2), some (.int x3), some (.int x4)]) (st1 := [.ref 27, .ref 27]) rfl ?_
    refine gk_W_h (i := .getfield 27) 99 rfl rfl (h_gr (a := 26) (k := 9) (m := 32) hS ly_26 rfl) rfl ?_
    refine gk_W_s 1 (pc1 := 100) (l1 := [some (.ref 27), some (.int x1), some (.int x2), some (.int x3), some (.int x4)]) (st1 := [.int x3, .ref 32, .ref 27]) rfl ?_
    obtain ⟨hb2, h⟩ := h
    refine gk_W_h (i := .iaload) 101 rfl rfl (h_al (a := 31) (scr := none) hS ly_31 hb2) rfl ?_
    obtain ⟨v4, w5, hE3, hS6, h⟩ := h
    refine gk_W_c (i := .invokevirtual 155) [.int v4] 104 rfl rfl (c_v (a := 26) hS ly_26 rfl rfl (Nat.le_of_ble_eq_true rfl)) hE3 rfl rfl ?_
    refine gk_W_s 3 (pc1 := 42) (l1 := [some (.ref 27), some (.int x1), some (.int x2), some (.int (x3 + 1)), some (.int x4)]) (st1 := []) rfl ?_
    exact gk_W_le (gk_le_s (gk_le_s (gk_le_s (gk_le_s (gk_le_n (gk_le_0)))))) h
  · have h := h.2 hp1
    refine gk_W_s 1 (pc1 := 70) (l1 := [some (.ref 27), some (.int x1), some (.int x2), some (.int x3), some (.int x4)]) (st1 := [.ref 27]) rfl ?_
    refine gk_W_h (i := .getfield 36) 73 rfl rfl (h_gr (a := 26) (k := 13) (m := 35) hS ly_26 rfl) rfl ?_
    refine gk_W_s 1 (pc1 := 75) (l1 := [some (.ref 27), some (.int x1), some (.int x2), some (.int x3), some (.int x4)]) (st1 := [.int x4, .ref 35]) rfl ?_
    obtain ⟨hb7, h⟩ := h
    refine gk_W_h (i := .iaload) 76 rfl rfl (h_al (a := 34) (scr := none) hS ly_34 hb7) rfl ?_
    refine gk_W_b 2 (¬ ((w_a w 34).getD x4.toNatClampNeg 0) = x1) (t := 88) (e := 80) (l1 := [some (.ref 27), some (.int x1), some (.int x2), some (.int x3), some (.int x4)]) (st1 := []) rfl (fun hp8 => ?_) (fun hp8 => ?_)
    · have h := h.1 hp8
      refine gk_W_s 2 (pc1 := 60) (l1 := [some (.ref 27), some (.int x1), some (.int x2), some (.int x3), some (.int (x4 + 1))]) (st1 := []) rfl ?_
      exact h
    · have h := h.2 (Decidable.not_not.mp hp8)
      refine gk_W_s 1 (pc1 := 81) (l1 := [some (.ref 27), some (.int x1), some (.int x2), some (.int x3), some (.int x4)]) (st1 := [.ref 27]) rfl ?_
      refine gk_W_h (i := .getfield 36) 84 rfl rfl (h_gr (a := 26) (k := 13) (m := 35) hS ly_26 rfl) rfl ?_
      refine gk_W_s 2 (pc1 := 87) (l1 := [some (.ref 27), some (.int x1), some (.int x2), some (.int x3), some (.int x4)]) (st1 := [.int x2, .int x4, .ref 35]) rfl ?_
      obtain ⟨hb9, h⟩ := h
      refine gk_W_h (i := .iastore) 88 rfl rfl (h_as (a := 34) (t := 0) hS ly_34 hb9 rfl) rfl ?_
      refine gk_W_s 2 (pc1 := 60) (l1 := [some (.ref 27), some (.int x1), some (.int x2), some (.int x3), some (.int (x4 + 1))]) (st1 := []) rfl ?_
      exact h
