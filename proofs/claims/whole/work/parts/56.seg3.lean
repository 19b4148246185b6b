/-! printed by wip/whole/sym.py: from cut to cut: 15 forget, 16 clear, 18 takeOver, 29 useful, 37 shape, 38 shapesOf, 63 single, 70 wipe, 71 erase, 72 derives, 73 isProduced, 74 growEnds, 75 endsOfRow, 76 endsOfSymbol, 77 endsOfVariable, 78 endsOfLetter, 84 rule, 96 solid, 101 plain, 107 greibach, 128 ways, 129 countWays, 130 countBetween, 132 waysOfRow, 133 waysUpTo, 136 derive, 137 search, 138 leastFitting, 139 replaceTop -/
/-- GrammarDesk$Trial.forget()V, at 0 -/
theorem sg_15_0 {d : Nat} {rr : List gk_S} {w w' : gk_Wd} {r : gk_Res} (hS : gk_Sh rr w)
    (h : (r = .inl none ∧ w' = w_si w 19 6 0)) :
    gk_W none d 15 0 [some (.ref 20)] [] w r w' := by
  refine gk_W_s 2 (pc1 := 2) (l1 := [some (.ref 20)]) (st1 := [.int 0, .ref 20]) rfl ?_
  refine gk_W_h (i := .putfield 34) 5 rfl rfl (h_pi (a := 19) (k := 6) (x := 0) hS ly_19 rfl rfl) rfl ?_
  obtain ⟨rfl, rfl⟩ := h
  exact gk_W_r (i := .return_) rfl rfl rfl
/-- GrammarDesk.clear()I, at 0 -/
theorem sg_16_0 {d : Nat} {rr : List gk_S} {w w' : gk_Wd} {r : gk_Res} (hS : gk_Sh rr w)
    (h : (∃ (w2 : gk_Wd), gk_E d 17 [.ref 6] w (.inl none) w2 ∧ gk_Sh rr w2 ∧ (∃ (v5 : Int32), ∃ (w6 : gk_Wd), gk_E d 18 [.ref 1] w2 (.inl (some (.int v5))) w6 ∧ gk_Sh rr w6 ∧ (r = .inl (some (.int (f_13 w 3))) ∧ w' = w6)))) :
    gk_W none (d + 1) 16 0 [some (.ref 1), none] [] w r w' := by
  refine gk_W_s 1 (pc1 := 1) (l1 := [some (.ref 1), none]) (st1 := [.ref 1]) rfl ?_
  refine gk_W_h (i := .getfield 19) 4 rfl rfl (h_gr (a := 0) (k := 1) (m := 4) hS ly_0 rfl) rfl ?_
  refine gk_W_c (i := .invokevirtual 101) [.int (f_13 w 3)] 7 rfl rfl (c_v (a := 3) hS ly_3 rfl rfl (Nat.le_of_ble_eq_true rfl)) (f_13_E hS rs_3) rfl rfl ?_
  refine gk_W_s 2 (pc1 := 9) (l1 := [some (.ref 1), some (.int (f_13 w 3))]) (st1 := [.ref 1]) rfl ?_
  refine gk_W_h (i := .getfield 23) 12 rfl rfl (h_gr (a := 0) (k := 2) (m := 6) hS ly_0 rfl) rfl ?_
  obtain ⟨w2, hE1, hS3, h⟩ := h
  refine gk_W_c (i := .invokevirtual 108) [] 15 rfl rfl (c_v (a := 5) hS ly_5 rfl rfl (Nat.le_of_ble_eq_true rfl)) hE1 rfl rfl ?_
  refine gk_W_s 1 (pc1 := 16) (l1 := [some (.ref 1), some (.int (f_13 w 3))]) (st1 := [.ref 1]) rfl ?_
  obtain ⟨v5, w6, hE4, hS7, h⟩ := h
  refine gk_W_c (i := .invokevirtual 109) [.int v5] 19 rfl rfl (c_v (a := 0) hS3 ly_0 rfl rfl (Nat.le_of_ble_eq_true rfl)) hE4 rfl rfl ?_
  refine gk_W_s 2 (pc1 := 21) (l1 := [some (.ref 1), some (.int (f_13 w 3))]) (st1 := [.int (f_13 w 3)]) rfl ?_
  obtain ⟨rfl, rfl⟩ := h
  exact gk_W_r (i := .ireturn) rfl rfl rfl
/-- GrammarDesk.takeOver()I, at 0 -/
theorem sg_18_0 {d : Nat} {rr : List gk_S} {w w' : gk_Wd} {r : gk_Res} (hS : gk_Sh rr w)
    (h : (∃ (v2 : Int32), gk_E d 19 [.ref 4, .ref 6] w (.inl (some (.int v2))) w ∧ ((¬ v2 = 0 → (r = .inl (some (.int (f_13 w 3))) ∧ w' = w)) ∧ (v2 = 0 → (∃ (w5 : gk_Wd), gk_E d 20 [.ref 4, .ref 6] w (.inl none) w5 ∧ gk_Sh rr w5 ∧ (∃ (w8 : gk_Wd), gk_E d 15 [.ref 20] w5 (.inl none) w8 ∧ gk_Sh rr w8 ∧ (r = .inl (some (.int (f_13 w8 3))) ∧ w' = w8))))))) :
    gk_W none (d + 1) 18 0 [some (.ref 1)] [] w r w' := by
  refine gk_W_s 1 (pc1 := 1) (l1 := [some (.ref 1)]) (st1 := [.ref 1]) rfl ?_
  refine gk_W_h (i := .getfield 19) 4 rfl rfl (h_gr (a := 0) (k := 1) (m := 4) hS ly_0 rfl) rfl ?_
  refine gk_W_s 1 (pc1 := 5) (l1 := [some (.ref 1)]) (st1 := [.ref 1, .ref 4]) rfl ?_
  refine gk_W_h (i := .getfield 23) 8 rfl rfl (h_gr (a := 0) (k := 2) (m := 6) hS ly_0 rfl) rfl ?_
  obtain ⟨v2, hE1, h⟩ := h
  refine gk_W_c (i := .invokevirtual 223) [.int v2] 11 rfl rfl (c_v (a := 3) hS ly_3 rfl rfl (Nat.le_of_ble_eq_true rfl)) hE1 rfl rfl ?_
  refine gk_W_b 1 (¬ v2 = 0) (t := 32) (e := 14) (l1 := [some (.ref 1)]) (st1 := []) rfl (fun hp3 => ?_) (fun hp3 => ?_)
  · have h := h.1 hp3
    refine gk_W_s 1 (pc1 := 33) (l1 := [some (.ref 1)]) (st1 := [.ref 1]) rfl ?_
    refine gk_W_h (i := .getfield 19) 36 rfl rfl (h_gr (a := 0) (k := 1) (m := 4) hS ly_0 rfl) rfl ?_
    refine gk_W_c (i := .invokevirtual 101) [.int (f_13 w 3)] 39 rfl rfl (c_v (a := 3) hS ly_3 rfl rfl (Nat.le_of_ble_eq_true rfl)) (f_13_E hS rs_3) rfl rfl ?_
    obtain ⟨rfl, rfl⟩ := h
    exact gk_W_r (i := .ireturn) rfl rfl rfl
  · have h := h.2 (Decidable.not_not.mp hp3)
    refine gk_W_s 1 (pc1 := 15) (l1 := [some (.ref 1)]) (st1 := [.ref 1]) rfl ?_
    refine gk_W_h (i := .getfield 19) 18 rfl rfl (h_gr (a := 0) (k := 1) (m := 4) hS ly_0 rfl) rfl ?_
    refine gk_W_s 1 (pc1 := 19) (l1 := [some (.ref 1)]) (st1 := [.ref 1, .ref 4]) rfl ?_
    refine gk_W_h (i := .getfield 23) 22 rfl rfl (h_gr (a := 0) (k := 2) (m := 6) hS ly_0 rfl) rfl ?_
    obtain ⟨w5, hE4, hS6, h⟩ := h
    refine gk_W_c (i := .invokevirtual 132) [] 25 rfl rfl (c_v (a := 3) hS ly_3 rfl rfl (Nat.le_of_ble_eq_true rfl)) hE4 rfl rfl ?_
    refine gk_W_s 1 (pc1 := 26) (l1 := [some (.ref 1)]) (st1 := [.ref 1]) rfl ?_
    refine gk_W_h (i := .getfield 59) 29 rfl rfl (h_gr (a := 0) (k := 7) (m := 20) hS6 ly_0 rfl) rfl ?_
    obtain ⟨w8, hE7, hS9, h⟩ := h
    refine gk_W_c (i := .invokevirtual 94) [] 32 rfl rfl (c_v (a := 19) hS6 ly_19 rfl rfl (Nat.le_of_ble_eq_true rfl)) hE7 rfl rfl ?_
    refine gk_W_s 1 (pc1 := 33) (l1 := [some (.ref 1)]) (st1 := [.ref 1]) rfl ?_
    refine gk_W_h (i := .getfield 19) 36 rfl rfl (h_gr (a := 0) (k := 1) (m := 4) hS9 ly_0 rfl) rfl ?_
    refine gk_W_c (i := .invokevirtual 101) [.int (f_13 w8 3)] 39 rfl rfl (c_v (a := 3) hS9 ly_3 rfl rfl (Nat.le_of_ble_eq_true rfl)) (f_13_E hS9 rs_3) rfl rfl ?_
    obtain ⟨rfl, rfl⟩ := h
    exact gk_W_r (i := .ireturn) rfl rfl rfl
/-- GrammarDesk.useful()I, at 0 -/
theorem sg_29_0 {d : Nat} {rr : List gk_S} {w w' : gk_Wd} {r : gk_Res} (hS : gk_Sh rr w)
    (h : (∃ (w2 : gk_Wd), gk_E d 20 [.ref 6, .ref 4] w (.inl none) w2 ∧ gk_Sh rr w2 ∧ (∃ (v5 : Int32), ∃ (w6 : gk_Wd), gk_E d 30 [.ref 8, .ref 6] w2 (.inl (some (.int v5))) w6 ∧ gk_Sh rr w6 ∧ (∃ (v9 : Int32), ∃ (w10 : gk_Wd), gk_E d 18 [.ref 1] w6 (.inl (some (.int v9))) w10 ∧ gk_Sh rr w10 ∧ (r = .inl (some (.int v5)) ∧ w' = w10))))) :
    gk_W none (d + 1) 29 0 [some (.ref 1), none] [] w r w' := by
  refine gk_W_s 1 (pc1 := 1) (l1 := [some (.ref 1), none]) (st1 := [.ref 1]) rfl ?_
  refine gk_W_h (i := .getfield 23) 4 rfl rfl (h_gr (a := 0) (k := 2) (m := 6) hS ly_0 rfl) rfl ?_
  refine gk_W_s 1 (pc1 := 5) (l1 := [some (.ref 1), none]) (st1 := [.ref 1, .ref 6]) rfl ?_
  refine gk_W_h (i := .getfield 19) 8 rfl rfl (h_gr (a := 0) (k := 1) (m := 4) hS ly_0 rfl) rfl ?_
  obtain ⟨w2, hE1, hS3, h⟩ := h
  refine gk_W_c (i := .invokevirtual 132) [] 11 rfl rfl (c_v (a := 5) hS ly_5 rfl rfl (Nat.le_of_ble_eq_true rfl)) hE1 rfl rfl ?_
  refine gk_W_s 1 (pc1 := 12) (l1 := [some (.ref 1), none]) (st1 := [.ref 1]) rfl ?_
  refine gk_W_h (i := .getfield 29) 15 rfl rfl (h_gr (a := 0) (k := 3) (m := 8) hS3 ly_0 rfl) rfl ?_
  refine gk_W_s 1 (pc1 := 16) (l1 := [some (.ref 1), none]) (st1 := [.ref 1, .ref 8]) rfl ?_
  refine gk_W_h (i := .getfield 23) 19 rfl rfl (h_gr (a := 0) (k := 2) (m := 6) hS3 ly_0 rfl) rfl ?_
  obtain ⟨v5, w6, hE4, hS7, h⟩ := h
  refine gk_W_c (i := .invokevirtual 136) [.int v5] 22 rfl rfl (c_v (a := 7) hS3 ly_7 rfl rfl (Nat.le_of_ble_eq_true rfl)) hE4 rfl rfl ?_
  refine gk_W_s 2 (pc1 := 24) (l1 := [some (.ref 1), some (.int v5)]) (st1 := [.ref 1]) rfl ?_
  obtain ⟨v9, w10, hE8, hS11, h⟩ := h
  refine gk_W_c (i := .invokevirtual 109) [.int v9] 27 rfl rfl (c_v (a := 0) hS7 ly_0 rfl rfl (Nat.le_of_ble_eq_true rfl)) hE8 rfl rfl ?_
  refine gk_W_s 2 (pc1 := 29) (l1 := [some (.ref 1), some (.int v5)]) (st1 := [.int v5]) rfl ?_
  obtain ⟨rfl, rfl⟩ := h
  exact gk_W_r (i := .ireturn) rfl rfl rfl
/-- GrammarDesk.shape()I, at 0 -/
theorem sg_37_0 {d : Nat} {rr : List gk_S} {w w' : gk_Wd} {r : gk_Res} (hS : gk_Sh rr w)
    (h : gk_W none (d + 1) 37 5 [some (.ref 1), some (.int 15), some (.int 0)] [] w r w') :
    gk_W none (d + 1) 37 0 [some (.ref 1), none, none] [] w r w' := by
  refine gk_W_s 4 (pc1 := 5) (l1 := [some (.ref 1), some (.int 15), some (.int 0)]) (st1 := []) rfl ?_
  exact h
/-- GrammarDesk.shape()I, at 5 -/
theorem sg_37_5 {d : Nat} {rr : List gk_S} {w w' : gk_Wd} {r : gk_Res} (hS : gk_Sh rr w) (x1 : Int32) (x2 : Int32)
    (h : (((f_13 w 3) ≤ x2 → (∃ (w3 : gk_Wd), gk_E d 20 [.ref 6, .ref 4] w (.inl none) w3 ∧ gk_Sh rr w3 ∧ (∃ (v6 : Int32), ∃ (w7 : gk_Wd), gk_E d 30 [.ref 8, .ref 6] w3 (.inl (some (.int v6))) w7 ∧ gk_Sh rr w7 ∧ ((¬ v6 = 0 → (r = .inl (some (.int (x1 &&& ((-5))))) ∧ w' = w7)) ∧ (v6 = 0 → (r = .inl (some (.int x1)) ∧ w' = w7)))))) ∧ (¬ ((f_13 w 3) ≤ x2) → ((gk_out x2 60 = false) ∧ (∃ (v12 : Int32), gk_E d 38 [.long (f_23 w 3 x2)] w (.inl (some (.int v12))) w ∧ gk_W none (d + 1) 37 5 [some (.ref 1), some (.int (x1 &&& v12)), some (.int (x2 + 1))] [] w r w'))))) :
    gk_W none (d + 1) 37 5 [some (.ref 1), some (.int x1), some (.int x2)] [] w r w' := by
  refine gk_W_s 2 (pc1 := 7) (l1 := [some (.ref 1), some (.int x1), some (.int x2)]) (st1 := [.ref 1, .int x2]) rfl ?_
  refine gk_W_h (i := .getfield 19) 10 rfl rfl (h_gr (a := 0) (k := 1) (m := 4) hS ly_0 rfl) rfl ?_
  refine gk_W_c (i := .invokevirtual 101) [.int (f_13 w 3), .int x2] 13 rfl rfl (c_v (a := 3) hS ly_3 rfl rfl (Nat.le_of_ble_eq_true rfl)) (f_13_E hS rs_3) rfl rfl ?_
  refine gk_W_b 1 ((f_13 w 3) ≤ x2) (t := 36) (e := 16) (l1 := [some (.ref 1), some (.int x1), some (.int x2)]) (st1 := []) rfl (fun hp1 => ?_) (fun hp1 => ?_)
  · have h := h.1 hp1
    refine gk_W_s 1 (pc1 := 37) (l1 := [some (.ref 1), some (.int x1), some (.int x2)]) (st1 := [.ref 1]) rfl ?_
    refine gk_W_h (i := .getfield 23) 40 rfl rfl (h_gr (a := 0) (k := 2) (m := 6) hS ly_0 rfl) rfl ?_
    refine gk_W_s 1 (pc1 := 41) (l1 := [some (.ref 1), some (.int x1), some (.int x2)]) (st1 := [.ref 1, .ref 6]) rfl ?_
    refine gk_W_h (i := .getfield 19) 44 rfl rfl (h_gr (a := 0) (k := 1) (m := 4) hS ly_0 rfl) rfl ?_
    obtain ⟨w3, hE2, hS4, h⟩ := h
    refine gk_W_c (i := .invokevirtual 132) [] 47 rfl rfl (c_v (a := 5) hS ly_5 rfl rfl (Nat.le_of_ble_eq_true rfl)) hE2 rfl rfl ?_
    refine gk_W_s 1 (pc1 := 48) (l1 := [some (.ref 1), some (.int x1), some (.int x2)]) (st1 := [.ref 1]) rfl ?_
    refine gk_W_h (i := .getfield 29) 51 rfl rfl (h_gr (a := 0) (k := 3) (m := 8) hS4 ly_0 rfl) rfl ?_
    refine gk_W_s 1 (pc1 := 52) (l1 := [some (.ref 1), some (.int x1), some (.int x2)]) (st1 := [.ref 1, .ref 8]) rfl ?_
    refine gk_W_h (i := .getfield 23) 55 rfl rfl (h_gr (a := 0) (k := 2) (m := 6) hS4 ly_0 rfl) rfl ?_
    obtain ⟨v6, w7, hE5, hS8, h⟩ := h
    refine gk_W_c (i := .invokevirtual 136) [.int v6] 58 rfl rfl (c_v (a := 7) hS4 ly_7 rfl rfl (Nat.le_of_ble_eq_true rfl)) hE5 rfl rfl ?_
    refine gk_W_b 1 (¬ v6 = 0) (t := 65) (e := 61) (l1 := [some (.ref 1), some (.int x1), some (.int x2)]) (st1 := []) rfl (fun hp9 => ?_) (fun hp9 => ?_)
    · have h := h.1 hp9
      refine gk_W_s 3 (pc1 := 69) (l1 := [some (.ref 1), some (.int x1), some (.int x2)]) (st1 := [.int (x1 &&& ((-5)))]) rfl ?_
      obtain ⟨rfl, rfl⟩ := h
      exact gk_W_r (i := .ireturn) rfl rfl rfl
    · have h := h.2 (Decidable.not_not.mp hp9)
      refine gk_W_s 2 (pc1 := 69) (l1 := [some (.ref 1), some (.int x1), some (.int x2)]) (st1 := [.int x1]) rfl ?_
      obtain ⟨rfl, rfl⟩ := h
      exact gk_W_r (i := .ireturn) rfl rfl rfl
  · have h := h.2 hp1
    refine gk_W_s 2 (pc1 := 18) (l1 := [some (.ref 1), some (.int x1), some (.int x2)]) (st1 := [.ref 1, .int x1]) rfl ?_
    refine gk_W_h (i := .getfield 19) 21 rfl rfl (h_gr (a := 0) (k := 1) (m := 4) hS ly_0 rfl) rfl ?_
    refine gk_W_s 1 (pc1 := 22) (l1 := [some (.ref 1), some (.int x1), some (.int x2)]) (st1 := [.int x2, .ref 4, .int x1]) rfl ?_
    obtain ⟨hb10, h⟩ := h
    refine gk_W_c (i := .invokevirtual 112) [.long (f_23 w 3 x2), .int x1] 25 rfl rfl (c_v (a := 3) hS ly_3 rfl rfl (Nat.le_of_ble_eq_true rfl)) (f_23_E hS rs_3 x2 hb10) rfl rfl ?_
    obtain ⟨v12, hE11, h⟩ := h
    refine gk_W_c (i := .invokestatic 150) [.int v12, .int x1] 28 rfl rfl rfl hE11 rfl rfl ?_
    refine gk_W_s 4 (pc1 := 5) (l1 := [some (.ref 1), some (.int (x1 &&& v12)), some (.int (x2 + 1))]) (st1 := []) rfl ?_
    exact h
/-- GrammarDesk.shapesOf(J)I, at 0 -/
theorem sg_38_0 {d : Nat} {rr : List gk_S} {w w' : gk_Wd} {r : gk_Res} (hS : gk_Sh rr w) (y0 : Int64)
    (h : (((f_39 y0) = 0 → (((f_40 y0) = 0 → (∃ (v4 : Int32), gk_E (d + 1) 41 [.long y0] w (.inl (some (.int v4))) w ∧ ((v4 = 0 → (r = .inl (some (.int (((4 ||| 1) ||| 2) ||| 0))) ∧ w' = w)) ∧ (¬ (v4 = 0) → (r = .inl (some (.int (((4 ||| 1) ||| 2) ||| 8))) ∧ w' = w))))) ∧ (¬ ((f_40 y0) = 0) → (∃ (v7 : Int32), gk_E (d + 1) 41 [.long y0] w (.inl (some (.int v7))) w ∧ ((v7 = 0 → (r = .inl (some (.int (((4 ||| 1) ||| 0) ||| 0))) ∧ w' = w)) ∧ (¬ (v7 = 0) → (r = .inl (some (.int (((4 ||| 1) ||| 0) ||| 8))) ∧ w' = w))))))) ∧ (¬ ((f_39 y0) = 0) → (((f_40 y0) = 0 → (∃ (v11 : Int32), gk_E (d + 1) 41 [.long y0] w (.inl (some (.int v11))) w ∧ ((v11 = 0 → (r = .inl (some (.int (((4 ||| 0) ||| 2) ||| 0))) ∧ w' = w)) ∧ (¬ (v11 = 0) → (r = .inl (some (.int (((4 ||| 0) ||| 2) ||| 8))) ∧ w' = w))))) ∧ (¬ ((f_40 y0) = 0) → (∃ (v14 : Int32), gk_E (d + 1) 41 [.long y0] w (.inl (some (.int v14))) w ∧ ((v14 = 0 → (r = .inl (some (.int (((4 ||| 0) ||| 0) ||| 0))) ∧ w' = w)) ∧ (¬ (v14 = 0) → (r = .inl (some (.int (((4 ||| 0) ||| 0) ||| 8))) ∧ w' = w))))))))) :
    gk_W none (d + 2) 38 0 [some (.long y0), none, none] [] w r w' := by
  refine gk_W_s 4 (pc1 := 4) (l1 := [some (.long y0), none, some (.int 4)]) (st1 := [.long y0, .int 4]) rfl ?_
  refine gk_W_c (i := .invokestatic 199) [.int (f_39 y0), .int 4] 7 rfl rfl rfl (f_39_E y0) rfl rfl ?_
  refine gk_W_b 1 ((f_39 y0) = 0) (t := 14) (e := 10) (l1 := [some (.long y0), none, some (.int 4)]) (st1 := [.int 4]) rfl (fun hp1 => ?_) (fun hp1 => ?_)
  · have h := h.1 hp1
    refine gk_W_s 5 (pc1 := 19) (l1 := [some (.long y0), none, some (.int (4 ||| 1))]) (st1 := [.long y0, .int (4 ||| 1)]) rfl ?_
    refine gk_W_c (i := .invokestatic 202) [.int (f_40 y0), .int (4 ||| 1)] 22 rfl rfl rfl (f_40_E y0) rfl rfl ?_
    refine gk_W_b 1 ((f_40 y0) = 0) (t := 29) (e := 25) (l1 := [some (.long y0), none, some (.int (4 ||| 1))]) (st1 := [.int (4 ||| 1)]) rfl (fun hp2 => ?_) (fun hp2 => ?_)
    · have h := h.1 hp2
      refine gk_W_s 5 (pc1 := 34) (l1 := [some (.long y0), none, some (.int ((4 ||| 1) ||| 2))]) (st1 := [.long y0, .int ((4 ||| 1) ||| 2)]) rfl ?_
      obtain ⟨v4, hE3, h⟩ := h
      refine gk_W_c (i := .invokestatic 211) [.int v4, .int ((4 ||| 1) ||| 2)] 37 rfl rfl rfl hE3 rfl rfl ?_
      refine gk_W_b 1 (v4 = 0) (t := 45) (e := 40) (l1 := [some (.long y0), none, some (.int ((4 ||| 1) ||| 2))]) (st1 := [.int ((4 ||| 1) ||| 2)]) rfl (fun hp5 => ?_) (fun hp5 => ?_)
      · have h := h.1 hp5
        refine gk_W_s 4 (pc1 := 49) (l1 := [some (.long y0), none, some (.int (((4 ||| 1) ||| 2) ||| 0))]) (st1 := [.int (((4 ||| 1) ||| 2) ||| 0)]) rfl ?_
        obtain ⟨rfl, rfl⟩ := h
        exact gk_W_r (i := .ireturn) rfl rfl rfl
      · have h := h.2 hp5
        refine gk_W_s 5 (pc1 := 49) (l1 := [some (.long y0), none, some (.int (((4 ||| 1) ||| 2) ||| 8))]) (st1 := [.int (((4 ||| 1) ||| 2) ||| 8)]) rfl ?_
        obtain ⟨rfl, rfl⟩ := h
        exact gk_W_r (i := .ireturn) rfl rfl rfl
    · have h := h.2 hp2
      refine gk_W_s 6 (pc1 := 34) (l1 := [some (.long y0), none, some (.int ((4 ||| 1) ||| 0))]) (st1 := [.long y0, .int ((4 ||| 1) ||| 0)]) rfl ?_
      obtain ⟨v7, hE6, h⟩ := h
      refine gk_W_c (i := .invokestatic 211) [.int v7, .int ((4 ||| 1) ||| 0)] 37 rfl rfl rfl hE6 rfl rfl ?_
      refine gk_W_b 1 (v7 = 0) (t := 45) (e := 40) (l1 := [some (.long y0), none, some (.int ((4 ||| 1) ||| 0))]) (st1 := [.int ((4 ||| 1) ||| 0)]) rfl (fun hp8 => ?_) (fun hp8 => ?_)
      · have h := h.1 hp8
        refine gk_W_s 4 (pc1 := 49) (l1 := [some (.long y0), none, some (.int (((4 ||| 1) ||| 0) ||| 0))]) (st1 := [.int (((4 ||| 1) ||| 0) ||| 0)]) rfl ?_
        obtain ⟨rfl, rfl⟩ := h
        exact gk_W_r (i := .ireturn) rfl rfl rfl
      · have h := h.2 hp8
        refine gk_W_s 5 (pc1 := 49) (l1 := [some (.long y0), none, some (.int (((4 ||| 1) ||| 0) ||| 8))]) (st1 := [.int (((4 ||| 1) ||| 0) ||| 8)]) rfl ?_
        obtain ⟨rfl, rfl⟩ := h
        exact gk_W_r (i := .ireturn) rfl rfl rfl
  · have h := h.2 hp1
    refine gk_W_s 6 (pc1 := 19) (l1 := [some (.long y0), none, some (.int (4 ||| 0))]) (st1 := [.long y0, .int (4 ||| 0)]) rfl ?_
    refine gk_W_c (i := .invokestatic 202) [.int (f_40 y0), .int (4 ||| 0)] 22 rfl rfl rfl (f_40_E y0) rfl rfl ?_
    refine gk_W_b 1 ((f_40 y0) = 0) (t := 29) (e := 25) (l1 := [some (.long y0), none, some (.int (4 ||| 0))]) (st1 := [.int (4 ||| 0)]) rfl (fun hp9 => ?_) (fun hp9 => ?_)
    · have h := h.1 hp9
      refine gk_W_s 5 (pc1 := 34) (l1 := [some (.long y0), none, some (.int ((4 ||| 0) ||| 2))]) (st1 := [.long y0, .int ((4 ||| 0) ||| 2)]) rfl ?_
      obtain ⟨v11, hE10, h⟩ := h
      refine gk_W_c (i := .invokestatic 211) [.int v11, .int ((4 ||| 0) ||| 2)] 37 rfl rfl rfl hE10 rfl rfl ?_
      refine gk_W_b 1 (v11 = 0) (t := 45) (e := 40) (l1 := [some (.long y0), none, some (.int ((4 ||| 0) ||| 2))]) (st1 := [.int ((4 ||| 0) ||| 2)]) rfl (fun hp12 => ?_) (fun hp12 => ?_)
      · have h := h.1 hp12
        refine gk_W_s 4 (pc1 := 49) (l1 := [some (.long y0), none, some (.int (((4 ||| 0) ||| 2) ||| 0))]) (st1 := [.int (((4 ||| 0) ||| 2) ||| 0)]) rfl ?_
        obtain ⟨rfl, rfl⟩ := h
        exact gk_W_r (i := .ireturn) rfl rfl rfl
      · have h := h.2 hp12
        refine gk_W_s 5 (pc1 := 49) (l1 := [some (.long y0), none, some (.int (((4 ||| 0) ||| 2) ||| 8))]) (st1 := [.int (((4 ||| 0) ||| 2) ||| 8)]) rfl ?_
        obtain ⟨rfl, rfl⟩ := h
        exact gk_W_r (i := .ireturn) rfl rfl rfl
    · have h := h.2 hp9
      refine gk_W_s 6 (pc1 := 34) (l1 := [some (.long y0), none, some (.int ((4 ||| 0) ||| 0))]) (st1 := [.long y0, .int ((4 ||| 0) ||| 0)]) rfl ?_
      obtain ⟨v14, hE13, h⟩ := h
      refine gk_W_c (i := .invokestatic 211) [.int v14, .int ((4 ||| 0) ||| 0)] 37 rfl rfl rfl hE13 rfl rfl ?_
      refine gk_W_b 1 (v14 = 0) (t := 45) (e := 40) (l1 := [some (.long y0), none, some (.int ((4 ||| 0) ||| 0))]) (st1 := [.int ((4 ||| 0) ||| 0)]) rfl (fun hp15 => ?_) (fun hp15 => ?_)
      · have h := h.1 hp15
        refine gk_W_s 4 (pc1 := 49) (l1 := [some (.long y0), none, some (.int (((4 ||| 0) ||| 0) ||| 0))]) (st1 := [.int (((4 ||| 0) ||| 0) ||| 0)]) rfl ?_
        obtain ⟨rfl, rfl⟩ := h
        exact gk_W_r (i := .ireturn) rfl rfl rfl
      · have h := h.2 hp15
        refine gk_W_s 5 (pc1 := 49) (l1 := [some (.long y0), none, some (.int (((4 ||| 0) ||| 0) ||| 8))]) (st1 := [.int (((4 ||| 0) ||| 0) ||| 8)]) rfl ?_
        obtain ⟨rfl, rfl⟩ := h
        exact gk_W_r (i := .ireturn) rfl rfl rfl
/-- GrammarDesk.single()Z, at 0 -/
theorem sg_63_0 {d : Nat} {rr : List gk_S} {w w' : gk_Wd} {r : gk_Res} (hS : gk_Sh rr w)
    (h : (∃ (w2 : gk_Wd), gk_E d 53 [.ref 15, .ref 4] w (.inl none) w2 ∧ gk_Sh rr w2 ∧ (∃ (v5 : Int32), gk_E d 64 [.ref 15, .ref 4] w2 (.inl (some (.int v5))) w2 ∧ (fits .boolean (.int v5) = true ∧ r = .inl (some (.int v5)) ∧ w' = w2)))) :
    gk_W none (d + 1) 63 0 [some (.ref 1)] [] w r w' := by
  refine gk_W_s 1 (pc1 := 1) (l1 := [some (.ref 1)]) (st1 := [.ref 1]) rfl ?_
  refine gk_W_h (i := .getfield 45) 4 rfl rfl (h_gr (a := 0) (k := 5) (m := 15) hS ly_0 rfl) rfl ?_
  refine gk_W_s 1 (pc1 := 5) (l1 := [some (.ref 1)]) (st1 := [.ref 1, .ref 15]) rfl ?_
  refine gk_W_h (i := .getfield 19) 8 rfl rfl (h_gr (a := 0) (k := 1) (m := 4) hS ly_0 rfl) rfl ?_
  obtain ⟨w2, hE1, hS3, h⟩ := h
  refine gk_W_c (i := .invokevirtual 171) [] 11 rfl rfl (c_v (a := 14) hS ly_14 rfl rfl (Nat.le_of_ble_eq_true rfl)) hE1 rfl rfl ?_
  refine gk_W_s 1 (pc1 := 12) (l1 := [some (.ref 1)]) (st1 := [.ref 1]) rfl ?_
  refine gk_W_h (i := .getfield 45) 15 rfl rfl (h_gr (a := 0) (k := 5) (m := 15) hS3 ly_0 rfl) rfl ?_
  refine gk_W_s 1 (pc1 := 16) (l1 := [some (.ref 1)]) (st1 := [.ref 1, .ref 15]) rfl ?_
  refine gk_W_h (i := .getfield 19) 19 rfl rfl (h_gr (a := 0) (k := 1) (m := 4) hS3 ly_0 rfl) rfl ?_
  obtain ⟨v5, hE4, h⟩ := h
  refine gk_W_c (i := .invokevirtual 180) [.int v5] 22 rfl rfl (c_v (a := 14) hS3 ly_14 rfl rfl (Nat.le_of_ble_eq_true rfl)) hE4 rfl rfl ?_
  obtain ⟨hf, rfl, rfl⟩ := h
  exact gk_W_r (i := .ireturn) rfl rfl (gk_ret_f hf)
/-- GrammarDesk.wipe()I, at 0 -/
theorem sg_70_0 {d : Nat} {rr : List gk_S} {w w' : gk_Wd} {r : gk_Res} (hS : gk_Sh rr w)
    (h : (∃ (v2 : Int32), ∃ (w3 : gk_Wd), gk_E d 71 [.ref 20] w (.inl (some (.int v2))) w3 ∧ gk_Sh rr w3 ∧ (r = .inl (some (.int v2)) ∧ w' = w3))) :
    gk_W none (d + 1) 70 0 [some (.ref 1)] [] w r w' := by
  refine gk_W_s 1 (pc1 := 1) (l1 := [some (.ref 1)]) (st1 := [.ref 1]) rfl ?_
  refine gk_W_h (i := .getfield 59) 4 rfl rfl (h_gr (a := 0) (k := 7) (m := 20) hS ly_0 rfl) rfl ?_
  obtain ⟨v2, w3, hE1, hS4, h⟩ := h
  refine gk_W_c (i := .invokevirtual 193) [.int v2] 7 rfl rfl (c_v (a := 19) hS ly_19 rfl rfl (Nat.le_of_ble_eq_true rfl)) hE1 rfl rfl ?_
  obtain ⟨rfl, rfl⟩ := h
  exact gk_W_r (i := .ireturn) rfl rfl rfl
/-- GrammarDesk$Trial.erase()I, at 0 -/
theorem sg_71_0 {d : Nat} {rr : List gk_S} {w w' : gk_Wd} {r : gk_Res} (hS : gk_Sh rr w)
    (h : (((w_i w 19 1) ≤ 0 → (r = .inl (some (.int (w_i w 19 1))) ∧ w' = w)) ∧ (¬ ((w_i w 19 1) ≤ 0) → (∃ (w3 : gk_Wd), gk_E d 15 [.ref 20] (w_si w 19 1 0) (.inl none) w3 ∧ gk_Sh rr w3 ∧ (r = .inl (some (.int (w_i w 19 1))) ∧ w' = w3))))) :
    gk_W none (d + 1) 71 0 [some (.ref 20), none] [] w r w' := by
  refine gk_W_s 1 (pc1 := 1) (l1 := [some (.ref 20), none]) (st1 := [.ref 20]) rfl ?_
  refine gk_W_h (i := .getfield 17) 4 rfl rfl (h_gi (a := 19) (k := 1) hS ly_19 rfl) rfl ?_
  refine gk_W_b 3 ((w_i w 19 1) ≤ 0) (t := 18) (e := 9) (l1 := [some (.ref 20), some (.int (w_i w 19 1))]) (st1 := []) rfl (fun hp1 => ?_) (fun hp1 => ?_)
  · have h := h.1 hp1
    refine gk_W_s 1 (pc1 := 19) (l1 := [some (.ref 20), some (.int (w_i w 19 1))]) (st1 := [.int (w_i w 19 1)]) rfl ?_
    obtain ⟨rfl, rfl⟩ := h
    exact gk_W_r (i := .ireturn) rfl rfl rfl
  · have h := h.2 hp1
    refine gk_W_s 2 (pc1 := 11) (l1 := [some (.ref 20), some (.int (w_i w 19 1))]) (st1 := [.int 0, .ref 20]) rfl ?_
    refine gk_W_h (i := .putfield 17) 14 rfl rfl (h_pi (a := 19) (k := 1) (x := 0) hS ly_19 rfl rfl) rfl ?_
    refine gk_W_s 1 (pc1 := 15) (l1 := [some (.ref 20), some (.int (w_i w 19 1))]) (st1 := [.ref 20]) rfl ?_
    obtain ⟨w3, hE2, hS4, h⟩ := h
    refine gk_W_c (i := .invokevirtual 43) [] 18 rfl rfl (c_v (a := 19) (sh_si hS ly_19 (k := 1) rfl 0) ly_19 rfl rfl (Nat.le_of_ble_eq_true rfl)) hE2 rfl rfl ?_
    refine gk_W_s 1 (pc1 := 19) (l1 := [some (.ref 20), some (.int (w_i w 19 1))]) (st1 := [.int (w_i w 19 1)]) rfl ?_
    obtain ⟨rfl, rfl⟩ := h
    exact gk_W_r (i := .ireturn) rfl rfl rfl
/-- GrammarDesk.derives()Z, at 0 -/
theorem sg_72_0 {d : Nat} {rr : List gk_S} {w w' : gk_Wd} {r : gk_Res} (hS : gk_Sh rr w)
    (h : (∃ (v2 : Int32), ∃ (w3 : gk_Wd), gk_E d 73 [.ref 20, .ref 4] w (.inl (some (.int v2))) w3 ∧ gk_Sh rr w3 ∧ (fits .boolean (.int v2) = true ∧ r = .inl (some (.int v2)) ∧ w' = w3))) :
    gk_W none (d + 1) 72 0 [some (.ref 1)] [] w r w' := by
  refine gk_W_s 1 (pc1 := 1) (l1 := [some (.ref 1)]) (st1 := [.ref 1]) rfl ?_
  refine gk_W_h (i := .getfield 59) 4 rfl rfl (h_gr (a := 0) (k := 7) (m := 20) hS ly_0 rfl) rfl ?_
  refine gk_W_s 1 (pc1 := 5) (l1 := [some (.ref 1)]) (st1 := [.ref 1, .ref 20]) rfl ?_
  refine gk_W_h (i := .getfield 19) 8 rfl rfl (h_gr (a := 0) (k := 1) (m := 4) hS ly_0 rfl) rfl ?_
  obtain ⟨v2, w3, hE1, hS4, h⟩ := h
  refine gk_W_c (i := .invokevirtual 196) [.int v2] 11 rfl rfl (c_v (a := 19) hS ly_19 rfl rfl (Nat.le_of_ble_eq_true rfl)) hE1 rfl rfl ?_
  obtain ⟨hf, rfl, rfl⟩ := h
  exact gk_W_r (i := .ireturn) rfl rfl (gk_ret_f hf)
/-- GrammarDesk$Trial.isProduced(LGrammarDesk$RuleSet;)Z, at 0 -/
theorem sg_73_0 {d : Nat} {rr : List gk_S} {w w' : gk_Wd} {r : gk_Res} (hS : gk_Sh rr w) {a : Nat} (haa : gk_rs a)
    (h : gk_W none (d + 1) 73 2 [some (.ref 20), some (.ref (a + 1)), some (.int 0), none, none] [] w r w') :
    gk_W none (d + 1) 73 0 [some (.ref 20), some (.ref (a + 1)), none, none, none] [] w r w' := by
  refine gk_W_s 2 (pc1 := 2) (l1 := [some (.ref 20), some (.ref (a + 1)), some (.int 0), none, none]) (st1 := []) rfl ?_
  exact h
/-- GrammarDesk$Trial.isProduced(LGrammarDesk$RuleSet;)Z, at 2 -/
theorem sg_73_2 {d : Nat} {rr : List gk_S} {w w' : gk_Wd} {r : gk_Res} (hS : gk_Sh rr w) {a : Nat} (haa : gk_rs a) (x2 : Int32)
    (h : ((176 ≤ x2 → gk_W none (d + 1) 73 29 [some (.ref 20), some (.ref (a + 1)), some (.int (w_i w 19 1)), none, none] [] w r w') ∧ (¬ (176 ≤ x2) → (gk_out x2 176 = false ∧ gk_W none (d + 1) 73 2 [some (.ref 20), some (.ref (a + 1)), some (.int (x2 + 1)), none, none] [] (w_sa w 21 ((w_a w 21).set x2.toNatClampNeg 0)) r w')))) :
    gk_W none (d + 1) 73 2 [some (.ref 20), some (.ref (a + 1)), some (.int x2), none, none] [] w r w' := by
  refine gk_W_s 2 (pc1 := 4) (l1 := [some (.ref 20), some (.ref (a + 1)), some (.int x2), none, none]) (st1 := [.ref 20, .int x2]) rfl ?_
  refine gk_W_h (i := .getfield 21) 7 rfl rfl (h_gr (a := 19) (k := 2) (m := 22) hS ly_19 rfl) rfl ?_
  refine gk_W_h (i := .arraylength) 8 rfl rfl (h_len (a := 21) (scr := none) hS ly_21 (Nat.lt_of_sub_eq_succ rfl)) rfl ?_
  refine gk_W_b 1 (176 ≤ x2) (t := 24) (e := 11) (l1 := [some (.ref 20), some (.ref (a + 1)), some (.int x2), none, none]) (st1 := []) rfl (fun hp1 => ?_) (fun hp1 => ?_)
  · have h := h.1 hp1
    refine gk_W_s 1 (pc1 := 25) (l1 := [some (.ref 20), some (.ref (a + 1)), some (.int x2), none, none]) (st1 := [.ref 20]) rfl ?_
    refine gk_W_h (i := .getfield 17) 28 rfl rfl (h_gi (a := 19) (k := 1) hS ly_19 rfl) rfl ?_
    refine gk_W_s 1 (pc1 := 29) (l1 := [some (.ref 20), some (.ref (a + 1)), some (.int (w_i w 19 1)), none, none]) (st1 := []) rfl ?_
    exact h
  · have h := h.2 hp1
    refine gk_W_s 1 (pc1 := 12) (l1 := [some (.ref 20), some (.ref (a + 1)), some (.int x2), none, none]) (st1 := [.ref 20]) rfl ?_
    refine gk_W_h (i := .getfield 21) 15 rfl rfl (h_gr (a := 19) (k := 2) (m := 22) hS ly_19 rfl) rfl ?_
    refine gk_W_s 2 (pc1 := 17) (l1 := [some (.ref 20), some (.ref (a + 1)), some (.int x2), none, none]) (st1 := [.int 0, .int x2, .ref 22]) rfl ?_
    obtain ⟨hb2, h⟩ := h
    refine gk_W_h (i := .iastore) 18 rfl rfl (h_as (a := 21) (t := 0) hS ly_21 hb2 rfl) rfl ?_
    refine gk_W_s 2 (pc1 := 2) (l1 := [some (.ref 20), some (.ref (a + 1)), some (.int (x2 + 1)), none, none]) (st1 := []) rfl ?_
    exact h
/-- GrammarDesk$Trial.isProduced(LGrammarDesk$RuleSet;)Z, at 29 -/
theorem sg_73_29 {d : Nat} {rr : List gk_S} {w w' : gk_Wd} {r : gk_Res} (hS : gk_Sh rr w) {a : Nat} (haa : gk_rs a) (x2 : Int32)
    (h : ((x2 < 0 → (fits .boolean (.int (f_79 w ((w_a w 21).getD 0 0))) = true ∧ r = .inl (some (.int (f_79 w ((w_a w 21).getD 0 0)))) ∧ w' = w)) ∧ (¬ (x2 < 0) → gk_W none (d + 1) 73 38 [some (.ref 20), some (.ref (a + 1)), some (.int x2), some (.int 1), some (.int 0)] [] w r w'))) :
    gk_W none (d + 1) 73 29 [some (.ref 20), some (.ref (a + 1)), some (.int x2), none, none] [] w r w' := by
  refine gk_W_b 2 (x2 < 0) (t := 69) (e := 33) (l1 := [some (.ref 20), some (.ref (a + 1)), some (.int x2), none, none]) (st1 := []) rfl (fun hp1 => ?_) (fun hp1 => ?_)
  · have h := h.1 hp1
    refine gk_W_s 2 (pc1 := 71) (l1 := [some (.ref 20), some (.ref (a + 1)), some (.int x2), none, none]) (st1 := [.ref 20, .ref 20]) rfl ?_
    refine gk_W_h (i := .getfield 21) 74 rfl rfl (h_gr (a := 19) (k := 2) (m := 22) hS ly_19 rfl) rfl ?_
    refine gk_W_s 1 (pc1 := 75) (l1 := [some (.ref 20), some (.ref (a + 1)), some (.int x2), none, none]) (st1 := [.int 0, .ref 22, .ref 20]) rfl ?_
    refine gk_W_h (i := .iaload) 76 rfl rfl (h_al (a := 21) (scr := none) hS ly_21 rfl) rfl ?_
    refine gk_W_c (i := .invokevirtual 50) [.int (f_79 w ((w_a w 21).getD 0 0))] 79 rfl rfl (c_v (a := 19) hS ly_19 rfl rfl (Nat.le_of_ble_eq_true rfl)) (f_79_E hS ((w_a w 21).getD 0 0)) rfl rfl ?_
    obtain ⟨hf, rfl, rfl⟩ := h
    exact gk_W_r (i := .ireturn) rfl rfl (gk_ret_f hf)
  · have h := h.2 hp1
    refine gk_W_s 4 (pc1 := 38) (l1 := [some (.ref 20), some (.ref (a + 1)), some (.int x2), some (.int 1), some (.int 0)]) (st1 := []) rfl ?_
    exact h
/-- GrammarDesk$Trial.isProduced(LGrammarDesk$RuleSet;)Z, at 38 -/
theorem sg_73_38 {d : Nat} {rr : List gk_S} {w w' : gk_Wd} {r : gk_Res} (hS : gk_Sh rr w) {a : Nat} (haa : gk_rs a) (x2 : Int32) (x3 : Int32) (x4 : Int32)
    (h : ((x3 = 0 → gk_W none (d + 1) 73 29 [some (.ref 20), some (.ref (a + 1)), some (.int (x2 + (-1))), none, none] [] w r w') ∧ (¬ (x3 = 0) → ((177 ≤ x4 → gk_W none (d + 1) 73 29 [some (.ref 20), some (.ref (a + 1)), some (.int (x2 + (-1))), none, none] [] w r w') ∧ (¬ (177 ≤ x4) → (∃ (v4 : Int32), ∃ (w5 : gk_Wd), gk_E d 74 [.ref 20, .ref (a + 1), .int x2] w (.inl (some (.int v4))) w5 ∧ gk_Sh rr w5 ∧ gk_W none (d + 1) 73 38 [some (.ref 20), some (.ref (a + 1)), some (.int x2), some (.int v4), some (.int (x4 + 1))] [] w5 r w')))))) :
    gk_W none (d + 1) 73 38 [some (.ref 20), some (.ref (a + 1)), some (.int x2), some (.int x3), some (.int x4)] [] w r w' := by
  refine gk_W_b 2 (x3 = 0) (t := 63) (e := 42) (l1 := [some (.ref 20), some (.ref (a + 1)), some (.int x2), some (.int x3), some (.int x4)]) (st1 := []) rfl (fun hp1 => ?_) (fun hp1 => ?_)
  · have h := h.1 hp1
    refine gk_W_s 2 (pc1 := 29) (l1 := [some (.ref 20), some (.ref (a + 1)), some (.int (x2 + (-1))), some (.int x3), some (.int x4)]) (st1 := []) rfl ?_
    exact gk_W_le (gk_le_s (gk_le_s (gk_le_s (gk_le_n (gk_le_n (gk_le_0)))))) h
  · have h := h.2 hp1
    refine gk_W_b 3 (177 ≤ x4) (t := 63) (e := 50) (l1 := [some (.ref 20), some (.ref (a + 1)), some (.int x2), some (.int x3), some (.int x4)]) (st1 := []) rfl (fun hp2 => ?_) (fun hp2 => ?_)
    · have h := h.1 hp2
      refine gk_W_s 2 (pc1 := 29) (l1 := [some (.ref 20), some (.ref (a + 1)), some (.int (x2 + (-1))), some (.int x3), some (.int x4)]) (st1 := []) rfl ?_
      exact gk_W_le (gk_le_s (gk_le_s (gk_le_s (gk_le_n (gk_le_n (gk_le_0)))))) h
    · have h := h.2 hp2
      refine gk_W_s 3 (pc1 := 53) (l1 := [some (.ref 20), some (.ref (a + 1)), some (.int x2), some (.int x3), some (.int x4)]) (st1 := [.int x2, .ref (a + 1), .ref 20]) rfl ?_
      obtain ⟨v4, w5, hE3, hS6, h⟩ := h
      refine gk_W_c (i := .invokevirtual 46) [.int v4] 56 rfl rfl (c_v (a := 19) hS ly_19 rfl rfl (Nat.le_of_ble_eq_true rfl)) hE3 rfl rfl ?_
      refine gk_W_s 3 (pc1 := 38) (l1 := [some (.ref 20), some (.ref (a + 1)), some (.int x2), some (.int v4), some (.int (x4 + 1))]) (st1 := []) rfl ?_
      exact h
/-- GrammarDesk$Trial.growEnds(LGrammarDesk$RuleSet;I)Z, at 0 -/
theorem sg_74_0 {d : Nat} {rr : List gk_S} {w w' : gk_Wd} {r : gk_Res} (hS : gk_Sh rr w) {a : Nat} (haa : gk_rs a) (x2 : Int32)
    (h : gk_W none (d + 1) 74 5 [some (.ref 20), some (.ref (a + 1)), some (.int x2), some (.int 0), some (.int 0), none, none] [] w r w') :
    gk_W none (d + 1) 74 0 [some (.ref 20), some (.ref (a + 1)), some (.int x2), none, none, none, none] [] w r w' := by
  refine gk_W_s 4 (pc1 := 5) (l1 := [some (.ref 20), some (.ref (a + 1)), some (.int x2), some (.int 0), some (.int 0), none, none]) (st1 := []) rfl ?_
  exact h
/-- GrammarDesk$Trial.growEnds(LGrammarDesk$RuleSet;I)Z, at 5 -/
theorem sg_74_5 {d : Nat} {rr : List gk_S} {w w' : gk_Wd} {r : gk_Res} (hS : gk_Sh rr w) {a : Nat} (haa : gk_rs a) (x2 : Int32) (x3 : Int32) (x4 : Int32)
    (h : (((f_13 w a) ≤ x4 → (fits .boolean (.int x3) = true ∧ r = .inl (some (.int x3)) ∧ w' = w)) ∧ (¬ ((f_13 w a) ≤ x4) → ((gk_out x4 60 = false) ∧ (gk_out (((f_25 (f_23 w a x4)) * 11) + x2) 176 = false ∧ ((gk_out x4 60 = false) ∧ (∃ (v6 : Int32), gk_E d 75 [.ref 20, .long (f_23 w a x4), .int (1 <<< (x2 &&& 31))] w (.inl (some (.int v6))) w ∧ (gk_out (((f_25 (f_23 w a x4)) * 11) + x2) 176 = false ∧ (((((w_a w 21).getD (((f_25 (f_23 w a x4)) * 11) + x2).toNatClampNeg 0) ||| v6) = ((w_a w 21).getD (((f_25 (f_23 w a x4)) * 11) + x2).toNatClampNeg 0) → (gk_out (((f_25 (f_23 w a x4)) * 11) + x2) 176 = false ∧ gk_W none (d + 1) 74 5 [some (.ref 20), some (.ref (a + 1)), some (.int x2), some (.int (x3 ||| 0)), some (.int (x4 + 1)), none, none] [] (w_sa w 21 ((w_a w 21).set (((f_25 (f_23 w a x4)) * 11) + x2).toNatClampNeg (((w_a w 21).getD (((f_25 (f_23 w a x4)) * 11) + x2).toNatClampNeg 0) ||| v6))) r w')) ∧ (¬ ((((w_a w 21).getD (((f_25 (f_23 w a x4)) * 11) + x2).toNatClampNeg 0) ||| v6) = ((w_a w 21).getD (((f_25 (f_23 w a x4)) * 11) + x2).toNatClampNeg 0)) → (gk_out (((f_25 (f_23 w a x4)) * 11) + x2) 176 = false ∧ gk_W none (d + 1) 74 5 [some (.ref 20), some (.ref (a + 1)), some (.int x2), some (.int (x3 ||| 1)), some (.int (x4 + 1)), none, none] [] (w_sa w 21 ((w_a w 21).set (((f_25 (f_23 w a x4)) * 11) + x2).toNatClampNeg (((w_a w 21).getD (((f_25 (f_23 w a x4)) * 11) + x2).toNatClampNeg 0) ||| v6))) r w'))))))))))) :
    gk_W none (d + 1) 74 5 [some (.ref 20), some (.ref (a + 1)), some (.int x2), some (.int x3), some (.int x4), none, none] [] w r w' := by
  refine gk_W_s 2 (pc1 := 8) (l1 := [some (.ref 20), some (.ref (a + 1)), some (.int x2), some (.int x3), some (.int x4), none, none]) (st1 := [.ref (a + 1), .int x4]) rfl ?_
  refine gk_W_c (i := .invokevirtual 54) [.int (f_13 w a), .int x4] 11 rfl rfl (c_v (a := a) hS haa.1 rfl rfl (Nat.le_of_ble_eq_true rfl)) (f_13_E hS ⟨haa.1, haa.2⟩) rfl rfl ?_
  refine gk_W_b 1 ((f_13 w a) ≤ x4) (t := 88) (e := 14) (l1 := [some (.ref 20), some (.ref (a + 1)), some (.int x2), some (.int x3), some (.int x4), none, none]) (st1 := []) rfl (fun hp1 => ?_) (fun hp1 => ?_)
  · have h := h.1 hp1
    refine gk_W_s 1 (pc1 := 89) (l1 := [some (.ref 20), some (.ref (a + 1)), some (.int x2), some (.int x3), some (.int x4), none, none]) (st1 := [.int x3]) rfl ?_
    obtain ⟨hf, rfl, rfl⟩ := h
    exact gk_W_r (i := .ireturn) rfl rfl (gk_ret_f hf)
  · have h := h.2 hp1
    refine gk_W_s 2 (pc1 := 17) (l1 := [some (.ref 20), some (.ref (a + 1)), some (.int x2), some (.int x3), some (.int x4), none, none]) (st1 := [.int x4, .ref (a + 1)]) rfl ?_
    obtain ⟨hb2, h⟩ := h
    refine gk_W_c (i := .invokevirtual 60) [.long (f_23 w a x4)] 20 rfl rfl (c_v (a := a) hS haa.1 rfl rfl (Nat.le_of_ble_eq_true rfl)) (f_23_E hS ⟨haa.1, haa.2⟩ x4 hb2) rfl rfl ?_
    refine gk_W_c (i := .invokestatic 64) [.int (f_25 (f_23 w a x4))] 23 rfl rfl rfl (f_25_E (f_23 w a x4)) rfl rfl ?_
    refine gk_W_s 6 (pc1 := 31) (l1 := [some (.ref 20), some (.ref (a + 1)), some (.int x2), some (.int x3), some (.int x4), some (.int (((f_25 (f_23 w a x4)) * 11) + x2)), none]) (st1 := [.ref 20]) rfl ?_
    refine gk_W_h (i := .getfield 21) 34 rfl rfl (h_gr (a := 19) (k := 2) (m := 22) hS ly_19 rfl) rfl ?_
    refine gk_W_s 1 (pc1 := 36) (l1 := [some (.ref 20), some (.ref (a + 1)), some (.int x2), some (.int x3), some (.int x4), some (.int (((f_25 (f_23 w a x4)) * 11) + x2)), none]) (st1 := [.int (((f_25 (f_23 w a x4)) * 11) + x2), .ref 22]) rfl ?_
    obtain ⟨hb3, h⟩ := h
    refine gk_W_h (i := .iaload) 37 rfl rfl (h_al (a := 21) (scr := none) hS ly_21 hb3) rfl ?_
    refine gk_W_s 3 (pc1 := 41) (l1 := [some (.ref 20), some (.ref (a + 1)), some (.int x2), some (.int x3), some (.int x4), some (.int (((f_25 (f_23 w a x4)) * 11) + x2)), none]) (st1 := [.int x4, .ref (a + 1), .ref 20, .int ((w_a w 21).getD (((f_25 (f_23 w a x4)) * 11) + x2).toNatClampNeg 0)]) rfl ?_
    obtain ⟨hb4, h⟩ := h
    refine gk_W_c (i := .invokevirtual 60) [.long (f_23 w a x4), .ref 20, .int ((w_a w 21).getD (((f_25 (f_23 w a x4)) * 11) + x2).toNatClampNeg 0)] 44 rfl rfl (c_v (a := a) hS haa.1 rfl rfl (Nat.le_of_ble_eq_true rfl)) (f_23_E hS ⟨haa.1, haa.2⟩ x4 hb4) rfl rfl ?_
    refine gk_W_s 3 (pc1 := 47) (l1 := [some (.ref 20), some (.ref (a + 1)), some (.int x2), some (.int x3), some (.int x4), some (.int (((f_25 (f_23 w a x4)) * 11) + x2)), none]) (st1 := [.int (1 <<< (x2 &&& 31)), .long (f_23 w a x4), .ref 20, .int ((w_a w 21).getD (((f_25 (f_23 w a x4)) * 11) + x2).toNatClampNeg 0)]) rfl ?_
    obtain ⟨v6, hE5, h⟩ := h
    refine gk_W_c (i := .invokevirtual 68) [.int v6, .int ((w_a w 21).getD (((f_25 (f_23 w a x4)) * 11) + x2).toNatClampNeg 0)] 50 rfl rfl (c_v (a := 19) hS ly_19 rfl rfl (Nat.le_of_ble_eq_true rfl)) hE5 rfl rfl ?_
    refine gk_W_s 5 (pc1 := 57) (l1 := [some (.ref 20), some (.ref (a + 1)), some (.int x2), some (.int x3), some (.int x4), some (.int (((f_25 (f_23 w a x4)) * 11) + x2)), some (.int (((w_a w 21).getD (((f_25 (f_23 w a x4)) * 11) + x2).toNatClampNeg 0) ||| v6))]) (st1 := [.ref 20, .int (((w_a w 21).getD (((f_25 (f_23 w a x4)) * 11) + x2).toNatClampNeg 0) ||| v6), .int x3]) rfl ?_
    refine gk_W_h (i := .getfield 21) 60 rfl rfl (h_gr (a := 19) (k := 2) (m := 22) hS ly_19 rfl) rfl ?_
    refine gk_W_s 1 (pc1 := 62) (l1 := [some (.ref 20), some (.ref (a + 1)), some (.int x2), some (.int x3), some (.int x4), some (.int (((f_25 (f_23 w a x4)) * 11) + x2)), some (.int (((w_a w 21).getD (((f_25 (f_23 w a x4)) * 11) + x2).toNatClampNeg 0) ||| v6))]) (st1 := [.int (((f_25 (f_23 w a x4)) * 11) + x2), .ref 22, .int (((w_a w 21).getD (((f_25 (f_23 w a x4)) * 11) + x2).toNatClampNeg 0) ||| v6), .int x3]) rfl ?_
    obtain ⟨hb7, h⟩ := h
    refine gk_W_h (i := .iaload) 63 rfl rfl (h_al (a := 21) (scr := none) hS ly_21 hb7) rfl ?_
    refine gk_W_b 1 ((((w_a w 21).getD (((f_25 (f_23 w a x4)) * 11) + x2).toNatClampNeg 0) ||| v6) = ((w_a w 21).getD (((f_25 (f_23 w a x4)) * 11) + x2).toNatClampNeg 0)) (t := 70) (e := 66) (l1 := [some (.ref 20), some (.ref (a + 1)), some (.int x2), some (.int x3), some (.int x4), some (.int (((f_25 (f_23 w a x4)) * 11) + x2)), some (.int (((w_a w 21).getD (((f_25 (f_23 w a x4)) * 11) + x2).toNatClampNeg 0) ||| v6))]) (st1 := [.int x3]) rfl (fun hp8 => ?_) (fun hp8 => ?_)
    · have h := h.1 hp8
      refine gk_W_s 4 (pc1 := 74) (l1 := [some (.ref 20), some (.ref (a + 1)), some (.int x2), some (.int (x3 ||| 0)), some (.int x4), some (.int (((f_25 (f_23 w a x4)) * 11) + x2)), some (.int (((w_a w 21).getD (((f_25 (f_23 w a x4)) * 11) + x2).toNatClampNeg 0) ||| v6))]) (st1 := [.ref 20]) rfl ?_
      refine gk_W_h (i := .getfield 21) 77 rfl rfl (h_gr (a := 19) (k := 2) (m := 22) hS ly_19 rfl) rfl ?_
      refine gk_W_s 2 (pc1 := 81) (l1 := [some (.ref 20), some (.ref (a + 1)), some (.int x2), some (.int (x3 ||| 0)), some (.int x4), some (.int (((f_25 (f_23 w a x4)) * 11) + x2)), some (.int (((w_a w 21).getD (((f_25 (f_23 w a x4)) * 11) + x2).toNatClampNeg 0) ||| v6))]) (st1 := [.int (((w_a w 21).getD (((f_25 (f_23 w a x4)) * 11) + x2).toNatClampNeg 0) ||| v6), .int (((f_25 (f_23 w a x4)) * 11) + x2), .ref 22]) rfl ?_
      obtain ⟨hb9, h⟩ := h
      refine gk_W_h (i := .iastore) 82 rfl rfl (h_as (a := 21) (t := 0) hS ly_21 hb9 rfl) rfl ?_
      refine gk_W_s 2 (pc1 := 5) (l1 := [some (.ref 20), some (.ref (a + 1)), some (.int x2), some (.int (x3 ||| 0)), some (.int (x4 + 1)), some (.int (((f_25 (f_23 w a x4)) * 11) + x2)), some (.int (((w_a w 21).getD (((f_25 (f_23 w a x4)) * 11) + x2).toNatClampNeg 0) ||| v6))]) (st1 := []) rfl ?_
      exact gk_W_le (gk_le_s (gk_le_s (gk_le_s (gk_le_s (gk_le_s (gk_le_n (gk_le_n (gk_le_0)))))))) h
    · have h := h.2 hp8
      refine gk_W_s 5 (pc1 := 74) (l1 := [some (.ref 20), some (.ref (a + 1)), some (.int x2), some (.int (x3 ||| 1)), some (.int x4), some (.int (((f_25 (f_23 w a x4)) * 11) + x2)), some (.int (((w_a w 21).getD (((f_25 (f_23 w a x4)) * 11) + x2).toNatClampNeg 0) ||| v6))]) (st1 := [.ref 20]) rfl ?_
      refine gk_W_h (i := .getfield 21) 77 rfl rfl (h_gr (a := 19) (k := 2) (m := 22) hS ly_19 rfl) rfl ?_
      refine gk_W_s 2 (pc1 := 81) (l1 := [some (.ref 20), some (.ref (a + 1)), some (.int x2), some (.int (x3 ||| 1)), some (.int x4), some (.int (((f_25 (f_23 w a x4)) * 11) + x2)), some (.int (((w_a w 21).getD (((f_25 (f_23 w a x4)) * 11) + x2).toNatClampNeg 0) ||| v6))]) (st1 := [.int (((w_a w 21).getD (((f_25 (f_23 w a x4)) * 11) + x2).toNatClampNeg 0) ||| v6), .int (((f_25 (f_23 w a x4)) * 11) + x2), .ref 22]) rfl ?_
      obtain ⟨hb10, h⟩ := h
      refine gk_W_h (i := .iastore) 82 rfl rfl (h_as (a := 21) (t := 0) hS ly_21 hb10 rfl) rfl ?_
      refine gk_W_s 2 (pc1 := 5) (l1 := [some (.ref 20), some (.ref (a + 1)), some (.int x2), some (.int (x3 ||| 1)), some (.int (x4 + 1)), some (.int (((f_25 (f_23 w a x4)) * 11) + x2)), some (.int (((w_a w 21).getD (((f_25 (f_23 w a x4)) * 11) + x2).toNatClampNeg 0) ||| v6))]) (st1 := []) rfl ?_
      exact gk_W_le (gk_le_s (gk_le_s (gk_le_s (gk_le_s (gk_le_s (gk_le_n (gk_le_n (gk_le_0)))))))) h
/-- GrammarDesk$Trial.endsOfRow(JI)I, at 0 -/
theorem sg_75_0 {d : Nat} {rr : List gk_S} {w w' : gk_Wd} {r : gk_Res} (hS : gk_Sh rr w) (y1 : Int64) (x3 : Int32)
    (h : gk_W none (d + 1) 75 6 [some (.ref 20), some (.long y1), none, none, some (.int x3), some (.int 1)] [] w r w') :
    gk_W none (d + 1) 75 0 [some (.ref 20), some (.long y1), none, some (.int x3), none, none] [] w r w' := by
  refine gk_W_s 4 (pc1 := 6) (l1 := [some (.ref 20), some (.long y1), none, some (.int x3), some (.int x3), some (.int 1)]) (st1 := []) rfl ?_
  exact gk_W_le (gk_le_s (gk_le_s (gk_le_s (gk_le_n (gk_le_s (gk_le_s (gk_le_0))))))) h
/-- GrammarDesk$Trial.endsOfRow(JI)I, at 6 -/
theorem sg_75_6 {d : Nat} {rr : List gk_S} {w w' : gk_Wd} {r : gk_Res} (hS : gk_Sh rr w) (y1 : Int64) (x4 : Int32) (x5 : Int32)
    (h : (((f_24 y1) < x5 → (r = .inl (some (.int x4)) ∧ w' = w)) ∧ (¬ ((f_24 y1) < x5) → ((x4 = 0 → (r = .inl (some (.int x4)) ∧ w' = w)) ∧ (¬ (x4 = 0) → (∃ (v4 : Int32), gk_E d 76 [.ref 20, .int (f_26 y1 x5), .int x4] w (.inl (some (.int v4))) w ∧ gk_W none (d + 1) 75 6 [some (.ref 20), some (.long y1), none, none, some (.int v4), some (.int (x5 + 1))] [] w r w')))))) :
    gk_W none (d + 1) 75 6 [some (.ref 20), some (.long y1), none, none, some (.int x4), some (.int x5)] [] w r w' := by
  refine gk_W_s 2 (pc1 := 9) (l1 := [some (.ref 20), some (.long y1), none, none, some (.int x4), some (.int x5)]) (st1 := [.long y1, .int x5]) rfl ?_
  refine gk_W_c (i := .invokestatic 72) [.int (f_24 y1), .int x5] 12 rfl rfl rfl (f_24_E y1) rfl rfl ?_
  refine gk_W_b 1 ((f_24 y1) < x5) (t := 40) (e := 15) (l1 := [some (.ref 20), some (.long y1), none, none, some (.int x4), some (.int x5)]) (st1 := []) rfl (fun hp1 => ?_) (fun hp1 => ?_)
  · have h := h.1 hp1
    refine gk_W_s 1 (pc1 := 42) (l1 := [some (.ref 20), some (.long y1), none, none, some (.int x4), some (.int x5)]) (st1 := [.int x4]) rfl ?_
    obtain ⟨rfl, rfl⟩ := h
    exact gk_W_r (i := .ireturn) rfl rfl rfl
  · have h := h.2 hp1
    refine gk_W_b 2 (x4 = 0) (t := 40) (e := 20) (l1 := [some (.ref 20), some (.long y1), none, none, some (.int x4), some (.int x5)]) (st1 := []) rfl (fun hp2 => ?_) (fun hp2 => ?_)
    · have h := h.1 hp2
      refine gk_W_s 1 (pc1 := 42) (l1 := [some (.ref 20), some (.long y1), none, none, some (.int x4), some (.int x5)]) (st1 := [.int x4]) rfl ?_
      obtain ⟨rfl, rfl⟩ := h
      exact gk_W_r (i := .ireturn) rfl rfl rfl
    · have h := h.2 hp2
      refine gk_W_s 3 (pc1 := 24) (l1 := [some (.ref 20), some (.long y1), none, none, some (.int x4), some (.int x5)]) (st1 := [.int x5, .long y1, .ref 20]) rfl ?_
      refine gk_W_c (i := .invokestatic 75) [.int (f_26 y1 x5), .ref 20] 27 rfl rfl rfl (f_26_E y1 x5) rfl rfl ?_
      refine gk_W_s 1 (pc1 := 29) (l1 := [some (.ref 20), some (.long y1), none, none, some (.int x4), some (.int x5)]) (st1 := [.int x4, .int (f_26 y1 x5), .ref 20]) rfl ?_
      obtain ⟨v4, hE3, h⟩ := h
      refine gk_W_c (i := .invokevirtual 78) [.int v4] 32 rfl rfl (c_v (a := 19) hS ly_19 rfl rfl (Nat.le_of_ble_eq_true rfl)) hE3 rfl rfl ?_
      refine gk_W_s 3 (pc1 := 6) (l1 := [some (.ref 20), some (.long y1), none, none, some (.int v4), some (.int (x5 + 1))]) (st1 := []) rfl ?_
      exact h
/-- GrammarDesk$Trial.endsOfSymbol(II)I, at 0 -/
theorem sg_76_0 {d : Nat} {rr : List gk_S} {w w' : gk_Wd} {r : gk_Res} (hS : gk_Sh rr w) (x1 : Int32) (x2 : Int32)
    (h : (((f_28 x1) = 0 → (∃ (v3 : Int32), gk_E d 78 [.ref 20, .int x1, .int x2] w (.inl (some (.int v3))) w ∧ (r = .inl (some (.int v3)) ∧ w' = w))) ∧ (¬ ((f_28 x1) = 0) → (∃ (v5 : Int32), gk_E d 77 [.ref 20, .int x1, .int x2] w (.inl (some (.int v5))) w ∧ (r = .inl (some (.int v5)) ∧ w' = w))))) :
    gk_W none (d + 1) 76 0 [some (.ref 20), some (.int x1), some (.int x2)] [] w r w' := by
  refine gk_W_s 1 (pc1 := 1) (l1 := [some (.ref 20), some (.int x1), some (.int x2)]) (st1 := [.int x1]) rfl ?_
  refine gk_W_c (i := .invokestatic 82) [.int (f_28 x1)] 4 rfl rfl rfl (f_28_E x1) rfl rfl ?_
  refine gk_W_b 1 ((f_28 x1) = 0) (t := 16) (e := 7) (l1 := [some (.ref 20), some (.int x1), some (.int x2)]) (st1 := []) rfl (fun hp1 => ?_) (fun hp1 => ?_)
  · have h := h.1 hp1
    refine gk_W_s 3 (pc1 := 19) (l1 := [some (.ref 20), some (.int x1), some (.int x2)]) (st1 := [.int x2, .int x1, .ref 20]) rfl ?_
    obtain ⟨v3, hE2, h⟩ := h
    refine gk_W_c (i := .invokevirtual 88) [.int v3] 22 rfl rfl (c_v (a := 19) hS ly_19 rfl rfl (Nat.le_of_ble_eq_true rfl)) hE2 rfl rfl ?_
    obtain ⟨rfl, rfl⟩ := h
    exact gk_W_r (i := .ireturn) rfl rfl rfl
  · have h := h.2 hp1
    refine gk_W_s 3 (pc1 := 10) (l1 := [some (.ref 20), some (.int x1), some (.int x2)]) (st1 := [.int x2, .int x1, .ref 20]) rfl ?_
    obtain ⟨v5, hE4, h⟩ := h
    refine gk_W_c (i := .invokevirtual 85) [.int v5] 13 rfl rfl (c_v (a := 19) hS ly_19 rfl rfl (Nat.le_of_ble_eq_true rfl)) hE4 rfl rfl ?_
    refine gk_W_s 1 (pc1 := 22) (l1 := [some (.ref 20), some (.int x1), some (.int x2)]) (st1 := [.int v5]) rfl ?_
    obtain ⟨rfl, rfl⟩ := h
    exact gk_W_r (i := .ireturn) rfl rfl rfl
/-- GrammarDesk$Trial.endsOfVariable(II)I, at 0 -/
theorem sg_77_0 {d : Nat} {rr : List gk_S} {w w' : gk_Wd} {r : gk_Res} (hS : gk_Sh rr w) (x1 : Int32) (x2 : Int32)
    (h : gk_W none d 77 5 [some (.ref 20), some (.int x1), some (.int x2), some (.int 0), some (.int 0)] [] w r w') :
    gk_W none d 77 0 [some (.ref 20), some (.int x1), some (.int x2), none, none] [] w r w' := by
  refine gk_W_s 4 (pc1 := 5) (l1 := [some (.ref 20), some (.int x1), some (.int x2), some (.int 0), some (.int 0)]) (st1 := []) rfl ?_
  exact h
/-- GrammarDesk$Trial.endsOfVariable(II)I, at 5 -/
theorem sg_77_5 {d : Nat} {rr : List gk_S} {w w' : gk_Wd} {r : gk_Res} (hS : gk_Sh rr w) (x1 : Int32) (x2 : Int32) (x3 : Int32) (x4 : Int32)
    (h : (((w_i w 19 1) < x4 → (r = .inl (some (.int x3)) ∧ w' = w)) ∧ (¬ ((w_i w 19 1) < x4) → ((((x2 >>> (x4 &&& 31)) &&& 1) = 0 → gk_W none d 77 5 [some (.ref 20), some (.int x1), some (.int x2), some (.int x3), some (.int (x4 + 1))] [] w r w') ∧ (¬ (((x2 >>> (x4 &&& 31)) &&& 1) = 0) → (gk_out ((x1 * 11) + x4) 176 = false ∧ gk_W none d 77 5 [some (.ref 20), some (.int x1), some (.int x2), some (.int (x3 ||| ((w_a w 21).getD ((x1 * 11) + x4).toNatClampNeg 0))), some (.int (x4 + 1))] [] w r w')))))) :
    gk_W none d 77 5 [some (.ref 20), some (.int x1), some (.int x2), some (.int x3), some (.int x4)] [] w r w' := by
  refine gk_W_s 2 (pc1 := 8) (l1 := [some (.ref 20), some (.int x1), some (.int x2), some (.int x3), some (.int x4)]) (st1 := [.ref 20, .int x4]) rfl ?_
  refine gk_W_h (i := .getfield 17) 11 rfl rfl (h_gi (a := 19) (k := 1) hS ly_19 rfl) rfl ?_
  refine gk_W_b 1 ((w_i w 19 1) < x4) (t := 44) (e := 14) (l1 := [some (.ref 20), some (.int x1), some (.int x2), some (.int x3), some (.int x4)]) (st1 := []) rfl (fun hp1 => ?_) (fun hp1 => ?_)
  · have h := h.1 hp1
    refine gk_W_s 1 (pc1 := 45) (l1 := [some (.ref 20), some (.int x1), some (.int x2), some (.int x3), some (.int x4)]) (st1 := [.int x3]) rfl ?_
    obtain ⟨rfl, rfl⟩ := h
    exact gk_W_r (i := .ireturn) rfl rfl rfl
  · have h := h.2 hp1
    refine gk_W_b 6 (((x2 >>> (x4 &&& 31)) &&& 1) = 0) (t := 38) (e := 23) (l1 := [some (.ref 20), some (.int x1), some (.int x2), some (.int x3), some (.int x4)]) (st1 := []) rfl (fun hp2 => ?_) (fun hp2 => ?_)
    · have h := h.1 hp2
      refine gk_W_s 2 (pc1 := 5) (l1 := [some (.ref 20), some (.int x1), some (.int x2), some (.int x3), some (.int (x4 + 1))]) (st1 := []) rfl ?_
      exact h
    · have h := h.2 hp2
      refine gk_W_s 2 (pc1 := 25) (l1 := [some (.ref 20), some (.int x1), some (.int x2), some (.int x3), some (.int x4)]) (st1 := [.ref 20, .int x3]) rfl ?_
      refine gk_W_h (i := .getfield 21) 28 rfl rfl (h_gr (a := 19) (k := 2) (m := 22) hS ly_19 rfl) rfl ?_
      refine gk_W_s 5 (pc1 := 35) (l1 := [some (.ref 20), some (.int x1), some (.int x2), some (.int x3), some (.int x4)]) (st1 := [.int ((x1 * 11) + x4), .ref 22, .int x3]) rfl ?_
      obtain ⟨hb3, h⟩ := h
      refine gk_W_h (i := .iaload) 36 rfl rfl (h_al (a := 21) (scr := none) hS ly_21 hb3) rfl ?_
      refine gk_W_s 4 (pc1 := 5) (l1 := [some (.ref 20), some (.int x1), some (.int x2), some (.int (x3 ||| ((w_a w 21).getD ((x1 * 11) + x4).toNatClampNeg 0))), some (.int (x4 + 1))]) (st1 := []) rfl ?_
      exact h
/-- GrammarDesk$Trial.endsOfLetter(II)I, at 0 -/
theorem sg_78_0 {d : Nat} {rr : List gk_S} {w w' : gk_Wd} {r : gk_Res} (hS : gk_Sh rr w) (x1 : Int32) (x2 : Int32)
    (h : gk_W none d 78 5 [some (.ref 20), some (.int x1), some (.int x2), some (.int 0), some (.int 0)] [] w r w') :
    gk_W none d 78 0 [some (.ref 20), some (.int x1), some (.int x2), none, none] [] w r w' := by
  refine gk_W_s 4 (pc1 := 5) (l1 := [some (.ref 20), some (.int x1), some (.int x2), some (.int 0), some (.int 0)]) (st1 := []) rfl ?_
  exact h
/-- GrammarDesk$Trial.endsOfLetter(II)I, at 5 -/
theorem sg_78_5 {d : Nat} {rr : List gk_S} {w w' : gk_Wd} {r : gk_Res} (hS : gk_Sh rr w) (x1 : Int32) (x2 : Int32) (x3 : Int32) (x4 : Int32)
    (h : (((w_i w 19 1) ≤ x4 → (r = .inl (some (.int x3)) ∧ w' = w)) ∧ (¬ ((w_i w 19 1) ≤ x4) → ((((x2 >>> (x4 &&& 31)) &&& 1) = 0 → gk_W none d 78 5 [some (.ref 20), some (.int x1), some (.int x2), some (.int x3), some (.int (x4 + 1))] [] w r w') ∧ (¬ (((x2 >>> (x4 &&& 31)) &&& 1) = 0) → (gk_out x4 10 = false ∧ ((¬ ((w_a w 20).getD x4.toNatClampNeg 0) = x1 → gk_W none d 78 5 [some (.ref 20), some (.int x1), some (.int x2), some (.int x3), some (.int (x4 + 1))] [] w r w') ∧ (((w_a w 20).getD x4.toNatClampNeg 0) = x1 → gk_W none d 78 5 [some (.ref 20), some (.int x1), some (.int x2), some (.int (x3 ||| (1 <<< ((x4 + 1) &&& 31)))), some (.int (x4 + 1))] [] w r w')))))))) :
    gk_W none d 78 5 [some (.ref 20), some (.int x1), some (.int x2), some (.int x3), some (.int x4)] [] w r w' := by
  refine gk_W_s 2 (pc1 := 8) (l1 := [some (.ref 20), some (.int x1), some (.int x2), some (.int x3), some (.int x4)]) (st1 := [.ref 20, .int x4]) rfl ?_
  refine gk_W_h (i := .getfield 17) 11 rfl rfl (h_gi (a := 19) (k := 1) hS ly_19 rfl) rfl ?_
  refine gk_W_b 1 ((w_i w 19 1) ≤ x4) (t := 49) (e := 14) (l1 := [some (.ref 20), some (.int x1), some (.int x2), some (.int x3), some (.int x4)]) (st1 := []) rfl (fun hp1 => ?_) (fun hp1 => ?_)
  · have h := h.1 hp1
    refine gk_W_s 1 (pc1 := 50) (l1 := [some (.ref 20), some (.int x1), some (.int x2), some (.int x3), some (.int x4)]) (st1 := [.int x3]) rfl ?_
    obtain ⟨rfl, rfl⟩ := h
    exact gk_W_r (i := .ireturn) rfl rfl rfl
  · have h := h.2 hp1
    refine gk_W_b 6 (((x2 >>> (x4 &&& 31)) &&& 1) = 0) (t := 43) (e := 23) (l1 := [some (.ref 20), some (.int x1), some (.int x2), some (.int x3), some (.int x4)]) (st1 := []) rfl (fun hp2 => ?_) (fun hp2 => ?_)
    · have h := h.1 hp2
      refine gk_W_s 2 (pc1 := 5) (l1 := [some (.ref 20), some (.int x1), some (.int x2), some (.int x3), some (.int (x4 + 1))]) (st1 := []) rfl ?_
      exact h
    · have h := h.2 hp2
      refine gk_W_s 1 (pc1 := 24) (l1 := [some (.ref 20), some (.int x1), some (.int x2), some (.int x3), some (.int x4)]) (st1 := [.ref 20]) rfl ?_
      refine gk_W_h (i := .getfield 13) 27 rfl rfl (h_gr (a := 19) (k := 0) (m := 21) hS ly_19 rfl) rfl ?_
      refine gk_W_s 1 (pc1 := 29) (l1 := [some (.ref 20), some (.int x1), some (.int x2), some (.int x3), some (.int x4)]) (st1 := [.int x4, .ref 21]) rfl ?_
      obtain ⟨hb3, h⟩ := h
      refine gk_W_h (i := .iaload) 30 rfl rfl (h_al (a := 20) (scr := none) hS ly_20 hb3) rfl ?_
      refine gk_W_b 2 (¬ ((w_a w 20).getD x4.toNatClampNeg 0) = x1) (t := 43) (e := 34) (l1 := [some (.ref 20), some (.int x1), some (.int x2), some (.int x3), some (.int x4)]) (st1 := []) rfl (fun hp4 => ?_) (fun hp4 => ?_)
      · have h := h.1 hp4
        refine gk_W_s 2 (pc1 := 5) (l1 := [some (.ref 20), some (.int x1), some (.int x2), some (.int x3), some (.int (x4 + 1))]) (st1 := []) rfl ?_
        exact h
      · have h := h.2 (Decidable.not_not.mp hp4)
        refine gk_W_s 10 (pc1 := 5) (l1 := [some (.ref 20), some (.int x1), some (.int x2), some (.int (x3 ||| (1 <<< ((x4 + 1) &&& 31)))), some (.int (x4 + 1))]) (st1 := []) rfl ?_
        exact h
/-- GrammarDesk.rule()I, at 0 -/
theorem sg_84_0 {d : Nat} {rr : List gk_S} {w w' : gk_Wd} {r : gk_Res} (hS : gk_Sh rr w)
    (h : (∃ (v2 : Int32), gk_E d 85 [.ref 2] w (.inl (some (.int v2))) w ∧ (((w_i (w_si w 0 8 v2) 0 8) = ((-1)) → (∃ (v5 : Int64), gk_E d 89 [.ref 2] (w_si w 0 8 v2) (.inl (some (.long v5))) (w_si w 0 8 v2) ∧ (∃ (w7 : gk_Wd), gk_E d 88 [.ref 2] (w_si w 0 8 v2) (.inl none) w7 ∧ gk_Sh rr w7 ∧ (∃ (v10 : Int32), gk_E d 92 [.ref 4, .long v5] w7 (.inl (some (.int v10))) w7 ∧ ((¬ v10 = 0 → (∃ (v13 : Int32), gk_E d 93 [.ref 4, .long v5] w7 (.inl (some (.int v13))) w7 ∧ (r = .inl (some (.int v13)) ∧ w' = w7))) ∧ (v10 = 0 → (∃ (v15 : Int32), ∃ (w16 : gk_Wd), gk_E d 94 [.ref 4, .long v5] w7 (.inl (some (.int v15))) w16 ∧ gk_Sh rr w16 ∧ ((¬ v15 = 0 → (∃ (w20 : gk_Wd), gk_E d 15 [.ref 20] w16 (.inl none) w20 ∧ gk_Sh rr w20 ∧ (∃ (v23 : Int32), gk_E d 93 [.ref 4, .long v5] w20 (.inl (some (.int v23))) w20 ∧ (r = .inl (some (.int v23)) ∧ w' = w20)))) ∧ (v15 = 0 → (5 ≤ (d + 1) ∧ r = .inr 10 ∧ w' = w16 ++ [.inl (10, [])])))))))))) ∧ (¬ ((w_i (w_si w 0 8 v2) 0 8) = ((-1))) → (∃ (w25 : gk_Wd), gk_E d 88 [.ref 2] (w_si w 0 8 v2) (.inl none) w25 ∧ gk_Sh rr w25 ∧ (5 ≤ (d + 1) ∧ r = .inr 9 ∧ w' = w25 ++ [.inl (9, [])])))))) :
    gk_W none (d + 1) 84 0 [some (.ref 1), none, none] [] w r w' := by
  refine gk_W_s 2 (pc1 := 2) (l1 := [some (.ref 1), none, none]) (st1 := [.ref 1, .ref 1]) rfl ?_
  refine gk_W_h (i := .getfield 12) 5 rfl rfl (h_gr (a := 0) (k := 0) (m := 2) hS ly_0 rfl) rfl ?_
  obtain ⟨v2, hE1, h⟩ := h
  refine gk_W_c (i := .invokevirtual 71) [.int v2, .ref 1] 8 rfl rfl (c_v (a := 1) hS ly_1 rfl rfl (Nat.le_of_ble_eq_true rfl)) hE1 rfl rfl ?_
  refine gk_W_h (i := .putfield 63) 11 rfl rfl (h_pi (a := 0) (k := 8) (x := v2) hS ly_0 rfl rfl) rfl ?_
  refine gk_W_s 1 (pc1 := 12) (l1 := [some (.ref 1), none, none]) (st1 := [.ref 1]) rfl ?_
  refine gk_W_h (i := .getfield 63) 15 rfl rfl (h_gi (a := 0) (k := 8) (sh_si hS ly_0 (k := 8) rfl v2) ly_0 rfl) rfl ?_
  refine gk_W_b 2 ((w_i (w_si w 0 8 v2) 0 8) = ((-1))) (t := 34) (e := 19) (l1 := [some (.ref 1), none, none]) (st1 := []) rfl (fun hp3 => ?_) (fun hp3 => ?_)
  · have h := h.1 hp3
    refine gk_W_s 1 (pc1 := 35) (l1 := [some (.ref 1), none, none]) (st1 := [.ref 1]) rfl ?_
    refine gk_W_h (i := .getfield 12) 38 rfl rfl (h_gr (a := 0) (k := 0) (m := 2) (sh_si hS ly_0 (k := 8) rfl v2) ly_0 rfl) rfl ?_
    obtain ⟨v5, hE4, h⟩ := h
    refine gk_W_c (i := .invokevirtual 80) [.long v5] 41 rfl rfl (c_v (a := 1) (sh_si hS ly_0 (k := 8) rfl v2) ly_1 rfl rfl (Nat.le_of_ble_eq_true rfl)) hE4 rfl rfl ?_
    refine gk_W_s 2 (pc1 := 43) (l1 := [some (.ref 1), some (.long v5), none]) (st1 := [.ref 1]) rfl ?_
    refine gk_W_h (i := .getfield 12) 46 rfl rfl (h_gr (a := 0) (k := 0) (m := 2) (sh_si hS ly_0 (k := 8) rfl v2) ly_0 rfl) rfl ?_
    obtain ⟨w7, hE6, hS8, h⟩ := h
    refine gk_W_c (i := .invokevirtual 74) [] 49 rfl rfl (c_v (a := 1) (sh_si hS ly_0 (k := 8) rfl v2) ly_1 rfl rfl (Nat.le_of_ble_eq_true rfl)) hE6 rfl rfl ?_
    refine gk_W_s 1 (pc1 := 50) (l1 := [some (.ref 1), some (.long v5), none]) (st1 := [.ref 1]) rfl ?_
    refine gk_W_h (i := .getfield 19) 53 rfl rfl (h_gr (a := 0) (k := 1) (m := 4) hS8 ly_0 rfl) rfl ?_
    refine gk_W_s 1 (pc1 := 54) (l1 := [some (.ref 1), some (.long v5), none]) (st1 := [.long v5, .ref 4]) rfl ?_
    obtain ⟨v10, hE9, h⟩ := h
    refine gk_W_c (i := .invokevirtual 84) [.int v10] 57 rfl rfl (c_v (a := 3) hS8 ly_3 rfl rfl (Nat.le_of_ble_eq_true rfl)) hE9 rfl rfl ?_
    refine gk_W_b 1 (¬ v10 = 0) (t := 86) (e := 60) (l1 := [some (.ref 1), some (.long v5), none]) (st1 := []) rfl (fun hp11 => ?_) (fun hp11 => ?_)
    · have h := h.1 hp11
      refine gk_W_s 1 (pc1 := 87) (l1 := [some (.ref 1), some (.long v5), none]) (st1 := [.ref 1]) rfl ?_
      refine gk_W_h (i := .getfield 19) 90 rfl rfl (h_gr (a := 0) (k := 1) (m := 4) hS8 ly_0 rfl) rfl ?_
      refine gk_W_s 1 (pc1 := 91) (l1 := [some (.ref 1), some (.long v5), none]) (st1 := [.long v5, .ref 4]) rfl ?_
      obtain ⟨v13, hE12, h⟩ := h
      refine gk_W_c (i := .invokevirtual 97) [.int v13] 94 rfl rfl (c_v (a := 3) hS8 ly_3 rfl rfl (Nat.le_of_ble_eq_true rfl)) hE12 rfl rfl ?_
      obtain ⟨rfl, rfl⟩ := h
      exact gk_W_r (i := .ireturn) rfl rfl rfl
    · have h := h.2 (Decidable.not_not.mp hp11)
      refine gk_W_s 1 (pc1 := 61) (l1 := [some (.ref 1), some (.long v5), none]) (st1 := [.ref 1]) rfl ?_
      refine gk_W_h (i := .getfield 19) 64 rfl rfl (h_gr (a := 0) (k := 1) (m := 4) hS8 ly_0 rfl) rfl ?_
      refine gk_W_s 1 (pc1 := 65) (l1 := [some (.ref 1), some (.long v5), none]) (st1 := [.long v5, .ref 4]) rfl ?_
      obtain ⟨v15, w16, hE14, hS17, h⟩ := h
      refine gk_W_c (i := .invokevirtual 88) [.int v15] 68 rfl rfl (c_v (a := 3) hS8 ly_3 rfl rfl (Nat.le_of_ble_eq_true rfl)) hE14 rfl rfl ?_
      refine gk_W_b 1 (¬ v15 = 0) (t := 79) (e := 71) (l1 := [some (.ref 1), some (.long v5), none]) (st1 := []) rfl (fun hp18 => ?_) (fun hp18 => ?_)
      · have h := h.1 hp18
        refine gk_W_s 1 (pc1 := 80) (l1 := [some (.ref 1), some (.long v5), none]) (st1 := [.ref 1]) rfl ?_
        refine gk_W_h (i := .getfield 59) 83 rfl rfl (h_gr (a := 0) (k := 7) (m := 20) hS17 ly_0 rfl) rfl ?_
        obtain ⟨w20, hE19, hS21, h⟩ := h
        refine gk_W_c (i := .invokevirtual 94) [] 86 rfl rfl (c_v (a := 19) hS17 ly_19 rfl rfl (Nat.le_of_ble_eq_true rfl)) hE19 rfl rfl ?_
        refine gk_W_s 1 (pc1 := 87) (l1 := [some (.ref 1), some (.long v5), none]) (st1 := [.ref 1]) rfl ?_
        refine gk_W_h (i := .getfield 19) 90 rfl rfl (h_gr (a := 0) (k := 1) (m := 4) hS21 ly_0 rfl) rfl ?_
        refine gk_W_s 1 (pc1 := 91) (l1 := [some (.ref 1), some (.long v5), none]) (st1 := [.long v5, .ref 4]) rfl ?_
        obtain ⟨v23, hE22, h⟩ := h
        refine gk_W_c (i := .invokevirtual 97) [.int v23] 94 rfl rfl (c_v (a := 3) hS21 ly_3 rfl rfl (Nat.le_of_ble_eq_true rfl)) hE22 rfl rfl ?_
        obtain ⟨rfl, rfl⟩ := h
        exact gk_W_r (i := .ireturn) rfl rfl rfl
      · have h := h.2 (Decidable.not_not.mp hp18)
        obtain ⟨hd5, rfl, rfl⟩ := h
        exact gk_W_x (i := .new 91) rfl rfl ⟨Nat.le_of_ble_eq_true rfl, hd5⟩
  · have h := h.2 hp3
    refine gk_W_s 1 (pc1 := 20) (l1 := [some (.ref 1), none, none]) (st1 := [.ref 1]) rfl ?_
    refine gk_W_h (i := .getfield 12) 23 rfl rfl (h_gr (a := 0) (k := 0) (m := 2) (sh_si hS ly_0 (k := 8) rfl v2) ly_0 rfl) rfl ?_
    obtain ⟨w25, hE24, hS26, h⟩ := h
    refine gk_W_c (i := .invokevirtual 74) [] 26 rfl rfl (c_v (a := 1) (sh_si hS ly_0 (k := 8) rfl v2) ly_1 rfl rfl (Nat.le_of_ble_eq_true rfl)) hE24 rfl rfl ?_
    obtain ⟨hd5, rfl, rfl⟩ := h
    exact gk_W_x (i := .new 77) rfl rfl ⟨Nat.le_of_ble_eq_true rfl, hd5⟩
/-- GrammarDesk.solid()I, at 0 -/
theorem sg_96_0 {d : Nat} {rr : List gk_S} {w w' : gk_Wd} {r : gk_Res} (hS : gk_Sh rr w)
    (h : (∃ (w2 : gk_Wd), gk_E d 20 [.ref 6, .ref 4] w (.inl none) w2 ∧ gk_Sh rr w2 ∧ (∃ (v5 : Int32), ∃ (w6 : gk_Wd), gk_E d 97 [.ref 8, .ref 6] w2 (.inl (some (.int v5))) w6 ∧ gk_Sh rr w6 ∧ ((¬ v5 = 0 → (∃ (v10 : Int32), ∃ (w11 : gk_Wd), gk_E d 18 [.ref 1] w6 (.inl (some (.int v10))) w11 ∧ gk_Sh rr w11 ∧ (r = .inl (some (.int v10)) ∧ w' = w11))) ∧ (v5 = 0 → (5 ≤ (d + 1) ∧ r = .inr 10 ∧ w' = w6 ++ [.inl (10, [])])))))) :
    gk_W none (d + 1) 96 0 [some (.ref 1)] [] w r w' := by
  refine gk_W_s 1 (pc1 := 1) (l1 := [some (.ref 1)]) (st1 := [.ref 1]) rfl ?_
  refine gk_W_h (i := .getfield 23) 4 rfl rfl (h_gr (a := 0) (k := 2) (m := 6) hS ly_0 rfl) rfl ?_
  refine gk_W_s 1 (pc1 := 5) (l1 := [some (.ref 1)]) (st1 := [.ref 1, .ref 6]) rfl ?_
  refine gk_W_h (i := .getfield 19) 8 rfl rfl (h_gr (a := 0) (k := 1) (m := 4) hS ly_0 rfl) rfl ?_
  obtain ⟨w2, hE1, hS3, h⟩ := h
  refine gk_W_c (i := .invokevirtual 132) [] 11 rfl rfl (c_v (a := 5) hS ly_5 rfl rfl (Nat.le_of_ble_eq_true rfl)) hE1 rfl rfl ?_
  refine gk_W_s 1 (pc1 := 12) (l1 := [some (.ref 1)]) (st1 := [.ref 1]) rfl ?_
  refine gk_W_h (i := .getfield 29) 15 rfl rfl (h_gr (a := 0) (k := 3) (m := 8) hS3 ly_0 rfl) rfl ?_
  refine gk_W_s 1 (pc1 := 16) (l1 := [some (.ref 1)]) (st1 := [.ref 1, .ref 8]) rfl ?_
  refine gk_W_h (i := .getfield 23) 19 rfl rfl (h_gr (a := 0) (k := 2) (m := 6) hS3 ly_0 rfl) rfl ?_
  obtain ⟨v5, w6, hE4, hS7, h⟩ := h
  refine gk_W_c (i := .invokevirtual 140) [.int v5] 22 rfl rfl (c_v (a := 7) hS3 ly_7 rfl rfl (Nat.le_of_ble_eq_true rfl)) hE4 rfl rfl ?_
  refine gk_W_b 1 (¬ v5 = 0) (t := 33) (e := 25) (l1 := [some (.ref 1)]) (st1 := []) rfl (fun hp8 => ?_) (fun hp8 => ?_)
  · have h := h.1 hp8
    refine gk_W_s 1 (pc1 := 34) (l1 := [some (.ref 1)]) (st1 := [.ref 1]) rfl ?_
    obtain ⟨v10, w11, hE9, hS12, h⟩ := h
    refine gk_W_c (i := .invokevirtual 109) [.int v10] 37 rfl rfl (c_v (a := 0) hS7 ly_0 rfl rfl (Nat.le_of_ble_eq_true rfl)) hE9 rfl rfl ?_
    obtain ⟨rfl, rfl⟩ := h
    exact gk_W_r (i := .ireturn) rfl rfl rfl
  · have h := h.2 (Decidable.not_not.mp hp8)
    obtain ⟨hd5, rfl, rfl⟩ := h
    exact gk_W_x (i := .new 91) rfl rfl ⟨Nat.le_of_ble_eq_true rfl, hd5⟩
/-- GrammarDesk.plain()I, at 0 -/
theorem sg_101_0 {d : Nat} {rr : List gk_S} {w w' : gk_Wd} {r : gk_Res} (hS : gk_Sh rr w)
    (h : (∃ (w2 : gk_Wd), gk_E d 20 [.ref 6, .ref 4] w (.inl none) w2 ∧ gk_Sh rr w2 ∧ (∃ (v5 : Int32), ∃ (w6 : gk_Wd), gk_E d 102 [.ref 8, .ref 6] w2 (.inl (some (.int v5))) w6 ∧ gk_Sh rr w6 ∧ ((¬ v5 = 0 → (∃ (v10 : Int32), ∃ (w11 : gk_Wd), gk_E d 18 [.ref 1] w6 (.inl (some (.int v10))) w11 ∧ gk_Sh rr w11 ∧ (r = .inl (some (.int v10)) ∧ w' = w11))) ∧ (v5 = 0 → (5 ≤ (d + 1) ∧ r = .inr 10 ∧ w' = w6 ++ [.inl (10, [])])))))) :
    gk_W none (d + 1) 101 0 [some (.ref 1)] [] w r w' := by
  refine gk_W_s 1 (pc1 := 1) (l1 := [some (.ref 1)]) (st1 := [.ref 1]) rfl ?_
  refine gk_W_h (i := .getfield 23) 4 rfl rfl (h_gr (a := 0) (k := 2) (m := 6) hS ly_0 rfl) rfl ?_
  refine gk_W_s 1 (pc1 := 5) (l1 := [some (.ref 1)]) (st1 := [.ref 1, .ref 6]) rfl ?_
  refine gk_W_h (i := .getfield 19) 8 rfl rfl (h_gr (a := 0) (k := 1) (m := 4) hS ly_0 rfl) rfl ?_
  obtain ⟨w2, hE1, hS3, h⟩ := h
  refine gk_W_c (i := .invokevirtual 132) [] 11 rfl rfl (c_v (a := 5) hS ly_5 rfl rfl (Nat.le_of_ble_eq_true rfl)) hE1 rfl rfl ?_
  refine gk_W_s 1 (pc1 := 12) (l1 := [some (.ref 1)]) (st1 := [.ref 1]) rfl ?_
  refine gk_W_h (i := .getfield 29) 15 rfl rfl (h_gr (a := 0) (k := 3) (m := 8) hS3 ly_0 rfl) rfl ?_
  refine gk_W_s 1 (pc1 := 16) (l1 := [some (.ref 1)]) (st1 := [.ref 1, .ref 8]) rfl ?_
  refine gk_W_h (i := .getfield 23) 19 rfl rfl (h_gr (a := 0) (k := 2) (m := 6) hS3 ly_0 rfl) rfl ?_
  obtain ⟨v5, w6, hE4, hS7, h⟩ := h
  refine gk_W_c (i := .invokevirtual 144) [.int v5] 22 rfl rfl (c_v (a := 7) hS3 ly_7 rfl rfl (Nat.le_of_ble_eq_true rfl)) hE4 rfl rfl ?_
  refine gk_W_b 1 (¬ v5 = 0) (t := 33) (e := 25) (l1 := [some (.ref 1)]) (st1 := []) rfl (fun hp8 => ?_) (fun hp8 => ?_)
  · have h := h.1 hp8
    refine gk_W_s 1 (pc1 := 34) (l1 := [some (.ref 1)]) (st1 := [.ref 1]) rfl ?_
    obtain ⟨v10, w11, hE9, hS12, h⟩ := h
    refine gk_W_c (i := .invokevirtual 109) [.int v10] 37 rfl rfl (c_v (a := 0) hS7 ly_0 rfl rfl (Nat.le_of_ble_eq_true rfl)) hE9 rfl rfl ?_
    obtain ⟨rfl, rfl⟩ := h
    exact gk_W_r (i := .ireturn) rfl rfl rfl
  · have h := h.2 (Decidable.not_not.mp hp8)
    obtain ⟨hd5, rfl, rfl⟩ := h
    exact gk_W_x (i := .new 91) rfl rfl ⟨Nat.le_of_ble_eq_true rfl, hd5⟩
/-- GrammarDesk.greibach()I, at 0 -/
theorem sg_107_0 {d : Nat} {rr : List gk_S} {w w' : gk_Wd} {r : gk_Res} (hS : gk_Sh rr w)
    (h : (∃ (w2 : gk_Wd), gk_E d 20 [.ref 6, .ref 4] w (.inl none) w2 ∧ gk_Sh rr w2 ∧ (∃ (v5 : Int32), ∃ (w6 : gk_Wd), gk_E d 108 [.ref 12, .ref 6] w2 (.inl (some (.int v5))) w6 ∧ gk_Sh rr w6 ∧ ((¬ v5 = 0 → (∃ (v10 : Int32), ∃ (w11 : gk_Wd), gk_E d 18 [.ref 1] w6 (.inl (some (.int v10))) w11 ∧ gk_Sh rr w11 ∧ (r = .inl (some (.int v10)) ∧ w' = w11))) ∧ (v5 = 0 → (5 ≤ (d + 1) ∧ r = .inr 10 ∧ w' = w6 ++ [.inl (10, [])])))))) :
    gk_W none (d + 1) 107 0 [some (.ref 1)] [] w r w' := by
  refine gk_W_s 1 (pc1 := 1) (l1 := [some (.ref 1)]) (st1 := [.ref 1]) rfl ?_
  refine gk_W_h (i := .getfield 23) 4 rfl rfl (h_gr (a := 0) (k := 2) (m := 6) hS ly_0 rfl) rfl ?_
  refine gk_W_s 1 (pc1 := 5) (l1 := [some (.ref 1)]) (st1 := [.ref 1, .ref 6]) rfl ?_
  refine gk_W_h (i := .getfield 19) 8 rfl rfl (h_gr (a := 0) (k := 1) (m := 4) hS ly_0 rfl) rfl ?_
  obtain ⟨w2, hE1, hS3, h⟩ := h
  refine gk_W_c (i := .invokevirtual 132) [] 11 rfl rfl (c_v (a := 5) hS ly_5 rfl rfl (Nat.le_of_ble_eq_true rfl)) hE1 rfl rfl ?_
  refine gk_W_s 1 (pc1 := 12) (l1 := [some (.ref 1)]) (st1 := [.ref 1]) rfl ?_
  refine gk_W_h (i := .getfield 38) 15 rfl rfl (h_gr (a := 0) (k := 4) (m := 12) hS3 ly_0 rfl) rfl ?_
  refine gk_W_s 1 (pc1 := 16) (l1 := [some (.ref 1)]) (st1 := [.ref 1, .ref 12]) rfl ?_
  refine gk_W_h (i := .getfield 23) 19 rfl rfl (h_gr (a := 0) (k := 2) (m := 6) hS3 ly_0 rfl) rfl ?_
  obtain ⟨v5, w6, hE4, hS7, h⟩ := h
  refine gk_W_c (i := .invokevirtual 147) [.int v5] 22 rfl rfl (c_v (a := 11) hS3 ly_11 rfl rfl (Nat.le_of_ble_eq_true rfl)) hE4 rfl rfl ?_
  refine gk_W_b 1 (¬ v5 = 0) (t := 33) (e := 25) (l1 := [some (.ref 1)]) (st1 := []) rfl (fun hp8 => ?_) (fun hp8 => ?_)
  · have h := h.1 hp8
    refine gk_W_s 1 (pc1 := 34) (l1 := [some (.ref 1)]) (st1 := [.ref 1]) rfl ?_
    obtain ⟨v10, w11, hE9, hS12, h⟩ := h
    refine gk_W_c (i := .invokevirtual 109) [.int v10] 37 rfl rfl (c_v (a := 0) hS7 ly_0 rfl rfl (Nat.le_of_ble_eq_true rfl)) hE9 rfl rfl ?_
    obtain ⟨rfl, rfl⟩ := h
    exact gk_W_r (i := .ireturn) rfl rfl rfl
  · have h := h.2 (Decidable.not_not.mp hp8)
    obtain ⟨hd5, rfl, rfl⟩ := h
    exact gk_W_x (i := .new 91) rfl rfl ⟨Nat.le_of_ble_eq_true rfl, hd5⟩
/-- GrammarDesk.ways()I, at 0 -/
theorem sg_128_0 {d : Nat} {rr : List gk_S} {w w' : gk_Wd} {r : gk_Res} (hS : gk_Sh rr w)
    (h : gk_W none (d + 2) 128 2 [some (.ref 1), some (.int 0)] [] w r w') :
    gk_W none (d + 2) 128 0 [some (.ref 1), none] [] w r w' := by
  refine gk_W_s 2 (pc1 := 2) (l1 := [some (.ref 1), some (.int 0)]) (st1 := []) rfl ?_
  exact h
/-- GrammarDesk.ways()I, at 2 -/
theorem sg_128_2 {d : Nat} {rr : List gk_S} {w w' : gk_Wd} {r : gk_Res} (hS : gk_Sh rr w) (x1 : Int32)
    (h : (((f_13 w 3) ≤ x1 → (∃ (v3 : Int32), ∃ (w4 : gk_Wd), gk_E (d + 1) 129 [.ref 20, .ref 4] w (.inl (some (.int v3))) w4 ∧ gk_Sh rr w4 ∧ (r = .inl (some (.int v3)) ∧ w' = w4))) ∧ (¬ ((f_13 w 3) ≤ x1) → ((gk_out x1 60 = false) ∧ ((¬ (f_39 (f_23 w 3 x1)) = 0 → (5 ≤ (d + 2) ∧ r = .inr 11 ∧ w' = w ++ [.inl (11, [])])) ∧ ((f_39 (f_23 w 3 x1)) = 0 → ((gk_out x1 60 = false) ∧ (((f_40 (f_23 w 3 x1)) = 0 → gk_W none (d + 2) 128 2 [some (.ref 1), some (.int (x1 + 1))] [] w r w') ∧ (¬ ((f_40 (f_23 w 3 x1)) = 0) → (5 ≤ (d + 2) ∧ r = .inr 11 ∧ w' = w ++ [.inl (11, [])])))))))))) :
    gk_W none (d + 2) 128 2 [some (.ref 1), some (.int x1)] [] w r w' := by
  refine gk_W_s 2 (pc1 := 4) (l1 := [some (.ref 1), some (.int x1)]) (st1 := [.ref 1, .int x1]) rfl ?_
  refine gk_W_h (i := .getfield 19) 7 rfl rfl (h_gr (a := 0) (k := 1) (m := 4) hS ly_0 rfl) rfl ?_
  refine gk_W_c (i := .invokevirtual 101) [.int (f_13 w 3), .int x1] 10 rfl rfl (c_v (a := 3) hS ly_3 rfl rfl (Nat.le_of_ble_eq_true rfl)) (f_13_E hS rs_3) rfl rfl ?_
  refine gk_W_b 1 ((f_13 w 3) ≤ x1) (t := 55) (e := 13) (l1 := [some (.ref 1), some (.int x1)]) (st1 := []) rfl (fun hp1 => ?_) (fun hp1 => ?_)
  · have h := h.1 hp1
    refine gk_W_s 1 (pc1 := 56) (l1 := [some (.ref 1), some (.int x1)]) (st1 := [.ref 1]) rfl ?_
    refine gk_W_h (i := .getfield 59) 59 rfl rfl (h_gr (a := 0) (k := 7) (m := 20) hS ly_0 rfl) rfl ?_
    refine gk_W_s 1 (pc1 := 60) (l1 := [some (.ref 1), some (.int x1)]) (st1 := [.ref 1, .ref 20]) rfl ?_
    refine gk_W_h (i := .getfield 19) 63 rfl rfl (h_gr (a := 0) (k := 1) (m := 4) hS ly_0 rfl) rfl ?_
    obtain ⟨v3, w4, hE2, hS5, h⟩ := h
    refine gk_W_c (i := .invokevirtual 208) [.int v3] 66 rfl rfl (c_v (a := 19) hS ly_19 rfl rfl (Nat.le_of_ble_eq_true rfl)) hE2 rfl rfl ?_
    obtain ⟨rfl, rfl⟩ := h
    exact gk_W_r (i := .ireturn) rfl rfl rfl
  · have h := h.2 hp1
    refine gk_W_s 1 (pc1 := 14) (l1 := [some (.ref 1), some (.int x1)]) (st1 := [.ref 1]) rfl ?_
    refine gk_W_h (i := .getfield 19) 17 rfl rfl (h_gr (a := 0) (k := 1) (m := 4) hS ly_0 rfl) rfl ?_
    refine gk_W_s 1 (pc1 := 18) (l1 := [some (.ref 1), some (.int x1)]) (st1 := [.int x1, .ref 4]) rfl ?_
    obtain ⟨hb6, h⟩ := h
    refine gk_W_c (i := .invokevirtual 112) [.long (f_23 w 3 x1)] 21 rfl rfl (c_v (a := 3) hS ly_3 rfl rfl (Nat.le_of_ble_eq_true rfl)) (f_23_E hS rs_3 x1 hb6) rfl rfl ?_
    refine gk_W_c (i := .invokestatic 199) [.int (f_39 (f_23 w 3 x1))] 24 rfl rfl rfl (f_39_E (f_23 w 3 x1)) rfl rfl ?_
    refine gk_W_b 1 (¬ (f_39 (f_23 w 3 x1)) = 0) (t := 41) (e := 27) (l1 := [some (.ref 1), some (.int x1)]) (st1 := []) rfl (fun hp7 => ?_) (fun hp7 => ?_)
    · have h := h.1 hp7
      obtain ⟨hd5, rfl, rfl⟩ := h
      exact gk_W_x (i := .new 205) rfl rfl ⟨Nat.le_of_ble_eq_true rfl, hd5⟩
    · have h := h.2 (Decidable.not_not.mp hp7)
      refine gk_W_s 1 (pc1 := 28) (l1 := [some (.ref 1), some (.int x1)]) (st1 := [.ref 1]) rfl ?_
      refine gk_W_h (i := .getfield 19) 31 rfl rfl (h_gr (a := 0) (k := 1) (m := 4) hS ly_0 rfl) rfl ?_
      refine gk_W_s 1 (pc1 := 32) (l1 := [some (.ref 1), some (.int x1)]) (st1 := [.int x1, .ref 4]) rfl ?_
      obtain ⟨hb8, h⟩ := h
      refine gk_W_c (i := .invokevirtual 112) [.long (f_23 w 3 x1)] 35 rfl rfl (c_v (a := 3) hS ly_3 rfl rfl (Nat.le_of_ble_eq_true rfl)) (f_23_E hS rs_3 x1 hb8) rfl rfl ?_
      refine gk_W_c (i := .invokestatic 202) [.int (f_40 (f_23 w 3 x1))] 38 rfl rfl rfl (f_40_E (f_23 w 3 x1)) rfl rfl ?_
      refine gk_W_b 1 ((f_40 (f_23 w 3 x1)) = 0) (t := 49) (e := 41) (l1 := [some (.ref 1), some (.int x1)]) (st1 := []) rfl (fun hp9 => ?_) (fun hp9 => ?_)
      · have h := h.1 hp9
        refine gk_W_s 2 (pc1 := 2) (l1 := [some (.ref 1), some (.int (x1 + 1))]) (st1 := []) rfl ?_
        exact h
      · have h := h.2 hp9
        obtain ⟨hd5, rfl, rfl⟩ := h
        exact gk_W_x (i := .new 205) rfl rfl ⟨Nat.le_of_ble_eq_true rfl, hd5⟩
/-- GrammarDesk$Trial.countWays(LGrammarDesk$RuleSet;)I, at 0 -/
theorem sg_129_0 {d : Nat} {rr : List gk_S} {w w' : gk_Wd} {r : gk_Res} (hS : gk_Sh rr w) {a : Nat} (haa : gk_rs a)
    (h : ((¬ (w_i w 19 1) = 0 → gk_W none (d + 1) 129 16 [some (.ref 20), some (.ref (a + 1)), some (.int ((w_i w 19 1) - 1)), none] [] w r w') ∧ ((w_i w 19 1) = 0 → (r = .inl (some (.int 0)) ∧ w' = w)))) :
    gk_W none (d + 1) 129 0 [some (.ref 20), some (.ref (a + 1)), none, none] [] w r w' := by
  refine gk_W_s 1 (pc1 := 1) (l1 := [some (.ref 20), some (.ref (a + 1)), none, none]) (st1 := [.ref 20]) rfl ?_
  refine gk_W_h (i := .getfield 17) 4 rfl rfl (h_gi (a := 19) (k := 1) hS ly_19 rfl) rfl ?_
  refine gk_W_b 1 (¬ (w_i w 19 1) = 0) (t := 9) (e := 7) (l1 := [some (.ref 20), some (.ref (a + 1)), none, none]) (st1 := []) rfl (fun hp1 => ?_) (fun hp1 => ?_)
  · have h := h.1 hp1
    refine gk_W_s 1 (pc1 := 10) (l1 := [some (.ref 20), some (.ref (a + 1)), none, none]) (st1 := [.ref 20]) rfl ?_
    refine gk_W_h (i := .getfield 17) 13 rfl rfl (h_gi (a := 19) (k := 1) hS ly_19 rfl) rfl ?_
    refine gk_W_s 3 (pc1 := 16) (l1 := [some (.ref 20), some (.ref (a + 1)), some (.int ((w_i w 19 1) - 1)), none]) (st1 := []) rfl ?_
    exact h
  · have h := h.2 (Decidable.not_not.mp hp1)
    refine gk_W_s 1 (pc1 := 8) (l1 := [some (.ref 20), some (.ref (a + 1)), none, none]) (st1 := [.int 0]) rfl ?_
    obtain ⟨rfl, rfl⟩ := h
    exact gk_W_r (i := .ireturn) rfl rfl rfl
/-- GrammarDesk$Trial.countWays(LGrammarDesk$RuleSet;)I, at 16 -/
theorem sg_129_16 {d : Nat} {rr : List gk_S} {w w' : gk_Wd} {r : gk_Res} (hS : gk_Sh rr w) {a : Nat} (haa : gk_rs a) (x2 : Int32)
    (h : ((x2 < 0 → (gk_out (f_131 0 0 (w_i w 19 1)) 1936 = false ∧ (r = .inl (some (.int ((w_a w 22).getD (f_131 0 0 (w_i w 19 1)).toNatClampNeg 0))) ∧ w' = w))) ∧ (¬ (x2 < 0) → gk_W none (d + 1) 129 24 [some (.ref 20), some (.ref (a + 1)), some (.int x2), some (.int (x2 + 1))] [] w r w'))) :
    gk_W none (d + 1) 129 16 [some (.ref 20), some (.ref (a + 1)), some (.int x2), none] [] w r w' := by
  refine gk_W_b 2 (x2 < 0) (t := 51) (e := 20) (l1 := [some (.ref 20), some (.ref (a + 1)), some (.int x2), none]) (st1 := []) rfl (fun hp1 => ?_) (fun hp1 => ?_)
  · have h := h.1 hp1
    refine gk_W_s 1 (pc1 := 52) (l1 := [some (.ref 20), some (.ref (a + 1)), some (.int x2), none]) (st1 := [.ref 20]) rfl ?_
    refine gk_W_h (i := .getfield 24) 55 rfl rfl (h_gr (a := 19) (k := 3) (m := 23) hS ly_19 rfl) rfl ?_
    refine gk_W_s 3 (pc1 := 58) (l1 := [some (.ref 20), some (.ref (a + 1)), some (.int x2), none]) (st1 := [.ref 20, .int 0, .int 0, .ref 23]) rfl ?_
    refine gk_W_h (i := .getfield 17) 61 rfl rfl (h_gi (a := 19) (k := 1) hS ly_19 rfl) rfl ?_
    refine gk_W_c (i := .invokestatic 95) [.int (f_131 0 0 (w_i w 19 1)), .ref 23] 64 rfl rfl rfl (f_131_E 0 0 (w_i w 19 1)) rfl rfl ?_
    obtain ⟨hb2, h⟩ := h
    refine gk_W_h (i := .iaload) 65 rfl rfl (h_al (a := 22) (scr := none) hS ly_22 hb2) rfl ?_
    obtain ⟨rfl, rfl⟩ := h
    exact gk_W_r (i := .ireturn) rfl rfl rfl
  · have h := h.2 hp1
    refine gk_W_s 4 (pc1 := 24) (l1 := [some (.ref 20), some (.ref (a + 1)), some (.int x2), some (.int (x2 + 1))]) (st1 := []) rfl ?_
    exact h
/-- GrammarDesk$Trial.countWays(LGrammarDesk$RuleSet;)I, at 24 -/
theorem sg_129_24 {d : Nat} {rr : List gk_S} {w w' : gk_Wd} {r : gk_Res} (hS : gk_Sh rr w) {a : Nat} (haa : gk_rs a) (x2 : Int32) (x3 : Int32)
    (h : (((w_i w 19 1) < x3 → gk_W none (d + 1) 129 16 [some (.ref 20), some (.ref (a + 1)), some (.int (x2 + (-1))), none] [] w r w') ∧ (¬ ((w_i w 19 1) < x3) → (∃ (w3 : gk_Wd), gk_E d 130 [.ref 20, .ref (a + 1), .int x2, .int x3] w (.inl none) w3 ∧ gk_Sh rr w3 ∧ gk_W none (d + 1) 129 24 [some (.ref 20), some (.ref (a + 1)), some (.int x2), some (.int (x3 + 1))] [] w3 r w')))) :
    gk_W none (d + 1) 129 24 [some (.ref 20), some (.ref (a + 1)), some (.int x2), some (.int x3)] [] w r w' := by
  refine gk_W_s 2 (pc1 := 26) (l1 := [some (.ref 20), some (.ref (a + 1)), some (.int x2), some (.int x3)]) (st1 := [.ref 20, .int x3]) rfl ?_
  refine gk_W_h (i := .getfield 17) 29 rfl rfl (h_gi (a := 19) (k := 1) hS ly_19 rfl) rfl ?_
  refine gk_W_b 1 ((w_i w 19 1) < x3) (t := 45) (e := 32) (l1 := [some (.ref 20), some (.ref (a + 1)), some (.int x2), some (.int x3)]) (st1 := []) rfl (fun hp1 => ?_) (fun hp1 => ?_)
  · have h := h.1 hp1
    refine gk_W_s 2 (pc1 := 16) (l1 := [some (.ref 20), some (.ref (a + 1)), some (.int (x2 + (-1))), some (.int x3)]) (st1 := []) rfl ?_
    exact gk_W_le (gk_le_s (gk_le_s (gk_le_s (gk_le_n (gk_le_0))))) h
  · have h := h.2 hp1
    refine gk_W_s 4 (pc1 := 36) (l1 := [some (.ref 20), some (.ref (a + 1)), some (.int x2), some (.int x3)]) (st1 := [.int x3, .int x2, .ref (a + 1), .ref 20]) rfl ?_
    obtain ⟨w3, hE2, hS4, h⟩ := h
    refine gk_W_c (i := .invokevirtual 91) [] 39 rfl rfl (c_v (a := 19) hS ly_19 rfl rfl (Nat.le_of_ble_eq_true rfl)) hE2 rfl rfl ?_
    refine gk_W_s 2 (pc1 := 24) (l1 := [some (.ref 20), some (.ref (a + 1)), some (.int x2), some (.int (x3 + 1))]) (st1 := []) rfl ?_
    exact h
/-- GrammarDesk$Trial.countBetween(LGrammarDesk$RuleSet;II)V, at 0 -/
theorem sg_130_0 {d : Nat} {rr : List gk_S} {w w' : gk_Wd} {r : gk_Res} (hS : gk_Sh rr w) {a : Nat} (haa : gk_rs a) (x2 : Int32) (x3 : Int32)
    (h : gk_W none (d + 1) 130 3 [some (.ref 20), some (.ref (a + 1)), some (.int x2), some (.int x3), some (.int 0), none] [] w r w') :
    gk_W none (d + 1) 130 0 [some (.ref 20), some (.ref (a + 1)), some (.int x2), some (.int x3), none, none] [] w r w' := by
  refine gk_W_s 2 (pc1 := 3) (l1 := [some (.ref 20), some (.ref (a + 1)), some (.int x2), some (.int x3), some (.int 0), none]) (st1 := []) rfl ?_
  exact h
/-- GrammarDesk$Trial.countBetween(LGrammarDesk$RuleSet;II)V, at 3 -/
theorem sg_130_3 {d : Nat} {rr : List gk_S} {w w' : gk_Wd} {r : gk_Res} (hS : gk_Sh rr w) {a : Nat} (haa : gk_rs a) (x2 : Int32) (x3 : Int32) (x4 : Int32)
    (h : ((16 ≤ x4 → gk_W none (d + 1) 130 32 [some (.ref 20), some (.ref (a + 1)), some (.int x2), some (.int x3), some (.int 0), none] [] w r w') ∧ (¬ (16 ≤ x4) → (gk_out (f_131 x4 x2 x3) 1936 = false ∧ gk_W none (d + 1) 130 3 [some (.ref 20), some (.ref (a + 1)), some (.int x2), some (.int x3), some (.int (x4 + 1)), none] [] (w_sa w 22 ((w_a w 22).set (f_131 x4 x2 x3).toNatClampNeg 0)) r w')))) :
    gk_W none (d + 1) 130 3 [some (.ref 20), some (.ref (a + 1)), some (.int x2), some (.int x3), some (.int x4), none] [] w r w' := by
  refine gk_W_b 3 (16 ≤ x4) (t := 29) (e := 10) (l1 := [some (.ref 20), some (.ref (a + 1)), some (.int x2), some (.int x3), some (.int x4), none]) (st1 := []) rfl (fun hp1 => ?_) (fun hp1 => ?_)
  · have h := h.1 hp1
    refine gk_W_s 2 (pc1 := 32) (l1 := [some (.ref 20), some (.ref (a + 1)), some (.int x2), some (.int x3), some (.int 0), none]) (st1 := []) rfl ?_
    exact h
  · have h := h.2 hp1
    refine gk_W_s 1 (pc1 := 11) (l1 := [some (.ref 20), some (.ref (a + 1)), some (.int x2), some (.int x3), some (.int x4), none]) (st1 := [.ref 20]) rfl ?_
    refine gk_W_h (i := .getfield 24) 14 rfl rfl (h_gr (a := 19) (k := 3) (m := 23) hS ly_19 rfl) rfl ?_
    refine gk_W_s 3 (pc1 := 18) (l1 := [some (.ref 20), some (.ref (a + 1)), some (.int x2), some (.int x3), some (.int x4), none]) (st1 := [.int x3, .int x2, .int x4, .ref 23]) rfl ?_
    refine gk_W_c (i := .invokestatic 95) [.int (f_131 x4 x2 x3), .ref 23] 21 rfl rfl rfl (f_131_E x4 x2 x3) rfl rfl ?_
    refine gk_W_s 1 (pc1 := 22) (l1 := [some (.ref 20), some (.ref (a + 1)), some (.int x2), some (.int x3), some (.int x4), none]) (st1 := [.int 0, .int (f_131 x4 x2 x3), .ref 23]) rfl ?_
    obtain ⟨hb2, h⟩ := h
    refine gk_W_h (i := .iastore) 23 rfl rfl (h_as (a := 22) (t := 0) hS ly_22 hb2 rfl) rfl ?_
    refine gk_W_s 2 (pc1 := 3) (l1 := [some (.ref 20), some (.ref (a + 1)), some (.int x2), some (.int x3), some (.int (x4 + 1)), none]) (st1 := []) rfl ?_
    exact h
/-- GrammarDesk$Trial.countBetween(LGrammarDesk$RuleSet;II)V, at 32 -/
theorem sg_130_32 {d : Nat} {rr : List gk_S} {w w' : gk_Wd} {r : gk_Res} (hS : gk_Sh rr w) {a : Nat} (haa : gk_rs a) (x2 : Int32) (x3 : Int32) (x4 : Int32)
    (h : (((f_13 w a) ≤ x4 → (r = .inl none ∧ w' = w)) ∧ (¬ ((f_13 w a) ≤ x4) → ((gk_out x4 60 = false) ∧ (gk_out (f_131 (f_25 (f_23 w a x4)) x2 x3) 1936 = false ∧ ((gk_out x4 60 = false) ∧ (∃ (v6 : Int64), ∃ (w7 : gk_Wd), gk_E d 132 [.ref 20, .long (f_23 w a x4), .int x2, .int x3] w (.inl (some (.long v6))) w7 ∧ gk_Sh rr w7 ∧ (gk_out (f_131 (f_25 (f_23 w a x4)) x2 x3) 1936 = false ∧ gk_W none (d + 1) 130 32 [some (.ref 20), some (.ref (a + 1)), some (.int x2), some (.int x3), some (.int (x4 + 1)), none] [] (w_sa w7 22 ((w_a w7 22).set (f_131 (f_25 (f_23 w a x4)) x2 x3).toNatClampNeg ((if ((((w_a w 22).getD (f_131 (f_25 (f_23 w a x4)) x2 x3).toNatClampNeg 0).toInt64) + v6) < 1000000 then ((((w_a w 22).getD (f_131 (f_25 (f_23 w a x4)) x2 x3).toNatClampNeg 0).toInt64) + v6) else 1000000).toInt32))) r w')))))))) :
    gk_W none (d + 1) 130 32 [some (.ref 20), some (.ref (a + 1)), some (.int x2), some (.int x3), some (.int x4), none] [] w r w' := by
  refine gk_W_s 2 (pc1 := 35) (l1 := [some (.ref 20), some (.ref (a + 1)), some (.int x2), some (.int x3), some (.int x4), none]) (st1 := [.ref (a + 1), .int x4]) rfl ?_
  refine gk_W_c (i := .invokevirtual 54) [.int (f_13 w a), .int x4] 38 rfl rfl (c_v (a := a) hS haa.1 rfl rfl (Nat.le_of_ble_eq_true rfl)) (f_13_E hS ⟨haa.1, haa.2⟩) rfl rfl ?_
  refine gk_W_b 1 ((f_13 w a) ≤ x4) (t := 98) (e := 41) (l1 := [some (.ref 20), some (.ref (a + 1)), some (.int x2), some (.int x3), some (.int x4), none]) (st1 := []) rfl (fun hp1 => ?_) (fun hp1 => ?_)
  · have h := h.1 hp1
    obtain ⟨rfl, rfl⟩ := h
    exact gk_W_r (i := .return_) rfl rfl rfl
  · have h := h.2 hp1
    refine gk_W_s 2 (pc1 := 44) (l1 := [some (.ref 20), some (.ref (a + 1)), some (.int x2), some (.int x3), some (.int x4), none]) (st1 := [.int x4, .ref (a + 1)]) rfl ?_
    obtain ⟨hb2, h⟩ := h
    refine gk_W_c (i := .invokevirtual 60) [.long (f_23 w a x4)] 47 rfl rfl (c_v (a := a) hS haa.1 rfl rfl (Nat.le_of_ble_eq_true rfl)) (f_23_E hS ⟨haa.1, haa.2⟩ x4 hb2) rfl rfl ?_
    refine gk_W_c (i := .invokestatic 64) [.int (f_25 (f_23 w a x4))] 50 rfl rfl rfl (f_25_E (f_23 w a x4)) rfl rfl ?_
    refine gk_W_s 2 (pc1 := 52) (l1 := [some (.ref 20), some (.ref (a + 1)), some (.int x2), some (.int x3), some (.int x4), none]) (st1 := [.int x3, .int x2, .int (f_25 (f_23 w a x4))]) rfl ?_
    refine gk_W_c (i := .invokestatic 95) [.int (f_131 (f_25 (f_23 w a x4)) x2 x3)] 55 rfl rfl rfl (f_131_E (f_25 (f_23 w a x4)) x2 x3) rfl rfl ?_
    refine gk_W_s 2 (pc1 := 58) (l1 := [some (.ref 20), some (.ref (a + 1)), some (.int x2), some (.int x3), some (.int x4), some (.int (f_131 (f_25 (f_23 w a x4)) x2 x3))]) (st1 := [.ref 20]) rfl ?_
    refine gk_W_h (i := .getfield 24) 61 rfl rfl (h_gr (a := 19) (k := 3) (m := 23) hS ly_19 rfl) rfl ?_
    refine gk_W_s 1 (pc1 := 63) (l1 := [some (.ref 20), some (.ref (a + 1)), some (.int x2), some (.int x3), some (.int x4), some (.int (f_131 (f_25 (f_23 w a x4)) x2 x3))]) (st1 := [.int (f_131 (f_25 (f_23 w a x4)) x2 x3), .ref 23]) rfl ?_
    refine gk_W_h (i := .ldc2_w 99) 66 rfl rfl rfl rfl ?_
    refine gk_W_s 1 (pc1 := 67) (l1 := [some (.ref 20), some (.ref (a + 1)), some (.int x2), some (.int x3), some (.int x4), some (.int (f_131 (f_25 (f_23 w a x4)) x2 x3))]) (st1 := [.ref 20, .long 1000000, .int (f_131 (f_25 (f_23 w a x4)) x2 x3), .ref 23]) rfl ?_
    refine gk_W_h (i := .getfield 24) 70 rfl rfl (h_gr (a := 19) (k := 3) (m := 23) hS ly_19 rfl) rfl ?_
    refine gk_W_s 1 (pc1 := 72) (l1 := [some (.ref 20), some (.ref (a + 1)), some (.int x2), some (.int x3), some (.int x4), some (.int (f_131 (f_25 (f_23 w a x4)) x2 x3))]) (st1 := [.int (f_131 (f_25 (f_23 w a x4)) x2 x3), .ref 23, .long 1000000, .int (f_131 (f_25 (f_23 w a x4)) x2 x3), .ref 23]) rfl ?_
    obtain ⟨hb3, h⟩ := h
    refine gk_W_h (i := .iaload) 73 rfl rfl (h_al (a := 22) (scr := none) hS ly_22 hb3) rfl ?_
    refine gk_W_s 4 (pc1 := 78) (l1 := [some (.ref 20), some (.ref (a + 1)), some (.int x2), some (.int x3), some (.int x4), some (.int (f_131 (f_25 (f_23 w a x4)) x2 x3))]) (st1 := [.int x4, .ref (a + 1), .ref 20, .long (((w_a w 22).getD (f_131 (f_25 (f_23 w a x4)) x2 x3).toNatClampNeg 0).toInt64), .long 1000000, .int (f_131 (f_25 (f_23 w a x4)) x2 x3), .ref 23]) rfl ?_
    obtain ⟨hb4, h⟩ := h
    refine gk_W_c (i := .invokevirtual 60) [.long (f_23 w a x4), .ref 20, .long (((w_a w 22).getD (f_131 (f_25 (f_23 w a x4)) x2 x3).toNatClampNeg 0).toInt64), .long 1000000, .int (f_131 (f_25 (f_23 w a x4)) x2 x3), .ref 23] 81 rfl rfl (c_v (a := a) hS haa.1 rfl rfl (Nat.le_of_ble_eq_true rfl)) (f_23_E hS ⟨haa.1, haa.2⟩ x4 hb4) rfl rfl ?_
    refine gk_W_s 2 (pc1 := 83) (l1 := [some (.ref 20), some (.ref (a + 1)), some (.int x2), some (.int x3), some (.int x4), some (.int (f_131 (f_25 (f_23 w a x4)) x2 x3))]) (st1 := [.int x3, .int x2, .long (f_23 w a x4), .ref 20, .long (((w_a w 22).getD (f_131 (f_25 (f_23 w a x4)) x2 x3).toNatClampNeg 0).toInt64), .long 1000000, .int (f_131 (f_25 (f_23 w a x4)) x2 x3), .ref 23]) rfl ?_
    obtain ⟨v6, w7, hE5, hS8, h⟩ := h
    refine gk_W_c (i := .invokevirtual 101) [.long v6, .long (((w_a w 22).getD (f_131 (f_25 (f_23 w a x4)) x2 x3).toNatClampNeg 0).toInt64), .long 1000000, .int (f_131 (f_25 (f_23 w a x4)) x2 x3), .ref 23] 86 rfl rfl (c_v (a := 19) hS ly_19 rfl rfl (Nat.le_of_ble_eq_true rfl)) hE5 rfl rfl ?_
    refine gk_W_s 1 (pc1 := 87) (l1 := [some (.ref 20), some (.ref (a + 1)), some (.int x2), some (.int x3), some (.int x4), some (.int (f_131 (f_25 (f_23 w a x4)) x2 x3))]) (st1 := [.long ((((w_a w 22).getD (f_131 (f_25 (f_23 w a x4)) x2 x3).toNatClampNeg 0).toInt64) + v6), .long 1000000, .int (f_131 (f_25 (f_23 w a x4)) x2 x3), .ref 23]) rfl ?_
    refine gk_W_h (i := .invokestatic 105) 90 rfl rfl rfl rfl ?_
    refine gk_W_s 1 (pc1 := 91) (l1 := [some (.ref 20), some (.ref (a + 1)), some (.int x2), some (.int x3), some (.int x4), some (.int (f_131 (f_25 (f_23 w a x4)) x2 x3))]) (st1 := [.int ((if ((((w_a w 22).getD (f_131 (f_25 (f_23 w a x4)) x2 x3).toNatClampNeg 0).toInt64) + v6) < 1000000 then ((((w_a w 22).getD (f_131 (f_25 (f_23 w a x4)) x2 x3).toNatClampNeg 0).toInt64) + v6) else 1000000).toInt32), .int (f_131 (f_25 (f_23 w a x4)) x2 x3), .ref 23]) rfl ?_
    obtain ⟨hb9, h⟩ := h
    refine gk_W_h (i := .iastore) 92 rfl rfl (h_as (a := 22) (t := 0) hS8 ly_22 hb9 rfl) rfl ?_
    refine gk_W_s 2 (pc1 := 32) (l1 := [some (.ref 20), some (.ref (a + 1)), some (.int x2), some (.int x3), some (.int (x4 + 1)), some (.int (f_131 (f_25 (f_23 w a x4)) x2 x3))]) (st1 := []) rfl ?_
    exact gk_W_le (gk_le_s (gk_le_s (gk_le_s (gk_le_s (gk_le_s (gk_le_n (gk_le_0))))))) h
/-- GrammarDesk$Trial.waysOfRow(JII)J, at 0 -/
theorem sg_132_0 {d : Nat} {rr : List gk_S} {w w' : gk_Wd} {r : gk_Res} (hS : gk_Sh rr w) (y1 : Int64) (x3 : Int32) (x4 : Int32)
    (h : (((f_24 y1) ≤ (x4 - x3) → gk_W none (d + 1) 132 20 [some (.ref 20), some (.long y1), none, some (.int x3), some (.int x4), some (.int (f_24 y1)), some (.int x3), none, none] [] w r w') ∧ (¬ ((f_24 y1) ≤ (x4 - x3)) → (r = .inl (some (.long 0)) ∧ w' = w)))) :
    gk_W none (d + 1) 132 0 [some (.ref 20), some (.long y1), none, some (.int x3), some (.int x4), none, none, none, none] [] w r w' := by
  refine gk_W_s 1 (pc1 := 1) (l1 := [some (.ref 20), some (.long y1), none, some (.int x3), some (.int x4), none, none, none, none]) (st1 := [.long y1]) rfl ?_
  refine gk_W_c (i := .invokestatic 72) [.int (f_24 y1)] 4 rfl rfl rfl (f_24_E y1) rfl rfl ?_
  refine gk_W_b 6 ((f_24 y1) ≤ (x4 - x3)) (t := 17) (e := 15) (l1 := [some (.ref 20), some (.long y1), none, some (.int x3), some (.int x4), some (.int (f_24 y1)), none, none, none]) (st1 := []) rfl (fun hp1 => ?_) (fun hp1 => ?_)
  · have h := h.1 hp1
    refine gk_W_s 2 (pc1 := 20) (l1 := [some (.ref 20), some (.long y1), none, some (.int x3), some (.int x4), some (.int (f_24 y1)), some (.int x3), none, none]) (st1 := []) rfl ?_
    exact h
  · have h := h.2 hp1
    refine gk_W_s 1 (pc1 := 16) (l1 := [some (.ref 20), some (.long y1), none, some (.int x3), some (.int x4), some (.int (f_24 y1)), none, none, none]) (st1 := [.long 0]) rfl ?_
    obtain ⟨rfl, rfl⟩ := h
    exact gk_W_r (i := .lreturn) rfl rfl rfl
/-- GrammarDesk$Trial.waysOfRow(JII)J, at 20 -/
theorem sg_132_20 {d : Nat} {rr : List gk_S} {w w' : gk_Wd} {r : gk_Res} (hS : gk_Sh rr w) (y1 : Int64) (x3 : Int32) (x4 : Int32) (x5 : Int32) (x6 : Int32)
    (h : ((x4 < x6 → gk_W none (d + 1) 132 54 [some (.ref 20), some (.long y1), none, some (.int x3), some (.int x4), some (.int x5), some (.int 1), none, none] [] w r w') ∧ (¬ (x4 < x6) → ((¬ x6 = x3 → (gk_out x6 11 = false ∧ gk_W none (d + 1) 132 20 [some (.ref 20), some (.long y1), none, some (.int x3), some (.int x4), some (.int x5), some (.int (x6 + 1)), none, none] [] (w_sl w 23 ((w_l w 23).set x6.toNatClampNeg 0)) r w')) ∧ (x6 = x3 → (gk_out x6 11 = false ∧ gk_W none (d + 1) 132 20 [some (.ref 20), some (.long y1), none, some (.int x3), some (.int x4), some (.int x5), some (.int (x6 + 1)), none, none] [] (w_sl w 23 ((w_l w 23).set x6.toNatClampNeg 1)) r w')))))) :
    gk_W none (d + 1) 132 20 [some (.ref 20), some (.long y1), none, some (.int x3), some (.int x4), some (.int x5), some (.int x6), none, none] [] w r w' := by
  refine gk_W_b 3 (x4 < x6) (t := 51) (e := 27) (l1 := [some (.ref 20), some (.long y1), none, some (.int x3), some (.int x4), some (.int x5), some (.int x6), none, none]) (st1 := []) rfl (fun hp1 => ?_) (fun hp1 => ?_)
  · have h := h.1 hp1
    refine gk_W_s 2 (pc1 := 54) (l1 := [some (.ref 20), some (.long y1), none, some (.int x3), some (.int x4), some (.int x5), some (.int 1), none, none]) (st1 := []) rfl ?_
    exact h
  · have h := h.2 hp1
    refine gk_W_s 1 (pc1 := 28) (l1 := [some (.ref 20), some (.long y1), none, some (.int x3), some (.int x4), some (.int x5), some (.int x6), none, none]) (st1 := [.ref 20]) rfl ?_
    refine gk_W_h (i := .getfield 27) 31 rfl rfl (h_gr (a := 19) (k := 4) (m := 24) hS ly_19 rfl) rfl ?_
    refine gk_W_b 4 (¬ x6 = x3) (t := 43) (e := 39) (l1 := [some (.ref 20), some (.long y1), none, some (.int x3), some (.int x4), some (.int x5), some (.int x6), none, none]) (st1 := [.int x6, .ref 24]) rfl (fun hp2 => ?_) (fun hp2 => ?_)
    · have h := h.1 hp2
      refine gk_W_s 1 (pc1 := 44) (l1 := [some (.ref 20), some (.long y1), none, some (.int x3), some (.int x4), some (.int x5), some (.int x6), none, none]) (st1 := [.long 0, .int x6, .ref 24]) rfl ?_
      obtain ⟨hb3, h⟩ := h
      refine gk_W_h (i := .lastore) 45 rfl rfl (h_ls (a := 23) hS ly_23 hb3) rfl ?_
      refine gk_W_s 2 (pc1 := 20) (l1 := [some (.ref 20), some (.long y1), none, some (.int x3), some (.int x4), some (.int x5), some (.int (x6 + 1)), none, none]) (st1 := []) rfl ?_
      exact h
    · have h := h.2 (Decidable.not_not.mp hp2)
      refine gk_W_s 2 (pc1 := 44) (l1 := [some (.ref 20), some (.long y1), none, some (.int x3), some (.int x4), some (.int x5), some (.int x6), none, none]) (st1 := [.long 1, .int x6, .ref 24]) rfl ?_
      obtain ⟨hb4, h⟩ := h
      refine gk_W_h (i := .lastore) 45 rfl rfl (h_ls (a := 23) hS ly_23 hb4) rfl ?_
      refine gk_W_s 2 (pc1 := 20) (l1 := [some (.ref 20), some (.long y1), none, some (.int x3), some (.int x4), some (.int x5), some (.int (x6 + 1)), none, none]) (st1 := []) rfl ?_
      exact h
/-- GrammarDesk$Trial.waysOfRow(JII)J, at 54 -/
theorem sg_132_54 {d : Nat} {rr : List gk_S} {w w' : gk_Wd} {r : gk_Res} (hS : gk_Sh rr w) (y1 : Int64) (x3 : Int32) (x4 : Int32) (x5 : Int32) (x6 : Int32)
    (h : ((x5 < x6 → (gk_out x4 11 = false ∧ (r = .inl (some (.long ((w_l w 23).getD x4.toNatClampNeg 0))) ∧ w' = w))) ∧ (¬ (x5 < x6) → gk_W none (d + 1) 132 65 [some (.ref 20), some (.long y1), none, some (.int x3), some (.int x4), some (.int x5), some (.int x6), some (.int x4), none] [] w r w'))) :
    gk_W none (d + 1) 132 54 [some (.ref 20), some (.long y1), none, some (.int x3), some (.int x4), some (.int x5), some (.int x6), none, none] [] w r w' := by
  refine gk_W_b 3 (x5 < x6) (t := 132) (e := 61) (l1 := [some (.ref 20), some (.long y1), none, some (.int x3), some (.int x4), some (.int x5), some (.int x6), none, none]) (st1 := []) rfl (fun hp1 => ?_) (fun hp1 => ?_)
  · have h := h.1 hp1
    refine gk_W_s 1 (pc1 := 133) (l1 := [some (.ref 20), some (.long y1), none, some (.int x3), some (.int x4), some (.int x5), some (.int x6), none, none]) (st1 := [.ref 20]) rfl ?_
    refine gk_W_h (i := .getfield 27) 136 rfl rfl (h_gr (a := 19) (k := 4) (m := 24) hS ly_19 rfl) rfl ?_
    refine gk_W_s 1 (pc1 := 138) (l1 := [some (.ref 20), some (.long y1), none, some (.int x3), some (.int x4), some (.int x5), some (.int x6), none, none]) (st1 := [.int x4, .ref 24]) rfl ?_
    obtain ⟨hb2, h⟩ := h
    refine gk_W_h (i := .laload) 139 rfl rfl (h_ll (a := 23) hS ly_23 hb2) rfl ?_
    obtain ⟨rfl, rfl⟩ := h
    exact gk_W_r (i := .lreturn) rfl rfl rfl
  · have h := h.2 hp1
    refine gk_W_s 2 (pc1 := 65) (l1 := [some (.ref 20), some (.long y1), none, some (.int x3), some (.int x4), some (.int x5), some (.int x6), some (.int x4), none]) (st1 := []) rfl ?_
    exact h
/-- GrammarDesk$Trial.waysOfRow(JII)J, at 65 -/
theorem sg_132_65 {d : Nat} {rr : List gk_S} {w w' : gk_Wd} {r : gk_Res} (hS : gk_Sh rr w) (y1 : Int64) (x3 : Int32) (x4 : Int32) (x5 : Int32) (x6 : Int32) (x7 : Int32)
    (h : ((x7 < x3 → gk_W none (d + 1) 132 54 [some (.ref 20), some (.long y1), none, some (.int x3), some (.int x4), some (.int x5), some (.int (x6 + 1)), none, none] [] w r w') ∧ (¬ (x7 < x3) → ((x4 < ((x7 + x5) - x6) → (gk_out x7 11 = false ∧ gk_W none (d + 1) 132 65 [some (.ref 20), some (.long y1), none, some (.int x3), some (.int x4), some (.int x5), some (.int x6), some (.int (x7 + (-1))), none] [] (w_sl w 23 ((w_l w 23).set x7.toNatClampNeg 0)) r w')) ∧ (¬ (x4 < ((x7 + x5) - x6)) → (∃ (v5 : Int64), gk_E d 133 [.ref 20, .int (f_26 y1 x6), .int x3, .int x7] w (.inl (some (.long v5))) w ∧ (gk_out x7 11 = false ∧ gk_W none (d + 1) 132 65 [some (.ref 20), some (.long y1), none, some (.int x3), some (.int x4), some (.int x5), some (.int x6), some (.int (x7 + (-1))), none] [] (w_sl w 23 ((w_l w 23).set x7.toNatClampNeg v5)) r w'))))))) :
    gk_W none (d + 1) 132 65 [some (.ref 20), some (.long y1), none, some (.int x3), some (.int x4), some (.int x5), some (.int x6), some (.int x7), none] [] w r w' := by
  refine gk_W_b 3 (x7 < x3) (t := 126) (e := 71) (l1 := [some (.ref 20), some (.long y1), none, some (.int x3), some (.int x4), some (.int x5), some (.int x6), some (.int x7), none]) (st1 := []) rfl (fun hp1 => ?_) (fun hp1 => ?_)
  · have h := h.1 hp1
    refine gk_W_s 2 (pc1 := 54) (l1 := [some (.ref 20), some (.long y1), none, some (.int x3), some (.int x4), some (.int x5), some (.int (x6 + 1)), some (.int x7), none]) (st1 := []) rfl ?_
    exact gk_W_le (gk_le_s (gk_le_s (gk_le_s (gk_le_s (gk_le_s (gk_le_s (gk_le_s (gk_le_n (gk_le_s (gk_le_0)))))))))) h
  · have h := h.2 hp1
    refine gk_W_b 7 (x4 < ((x7 + x5) - x6)) (t := 88) (e := 84) (l1 := [some (.ref 20), some (.long y1), none, some (.int x3), some (.int x4), some (.int x5), some (.int x6), some (.int x7), none]) (st1 := []) rfl (fun hp2 => ?_) (fun hp2 => ?_)
    · have h := h.1 hp2
      refine gk_W_s 3 (pc1 := 92) (l1 := [some (.ref 20), some (.long y1), none, some (.int x3), some (.int x4), some (.int x5), some (.int x6), some (.int x7), some (.int 0)]) (st1 := [.ref 20]) rfl ?_
      refine gk_W_h (i := .getfield 27) 95 rfl rfl (h_gr (a := 19) (k := 4) (m := 24) hS ly_19 rfl) rfl ?_
      refine gk_W_s 4 (pc1 := 119) (l1 := [some (.ref 20), some (.long y1), none, some (.int x3), some (.int x4), some (.int x5), some (.int x6), some (.int x7), some (.int 0)]) (st1 := [.long 0, .int x7, .ref 24]) rfl ?_
      obtain ⟨hb3, h⟩ := h
      refine gk_W_h (i := .lastore) 120 rfl rfl (h_ls (a := 23) hS ly_23 hb3) rfl ?_
      refine gk_W_s 2 (pc1 := 65) (l1 := [some (.ref 20), some (.long y1), none, some (.int x3), some (.int x4), some (.int x5), some (.int x6), some (.int (x7 + (-1))), some (.int 0)]) (st1 := []) rfl ?_
      exact gk_W_le (gk_le_s (gk_le_s (gk_le_s (gk_le_s (gk_le_s (gk_le_s (gk_le_s (gk_le_s (gk_le_n (gk_le_0)))))))))) h
    · have h := h.2 hp2
      refine gk_W_s 4 (pc1 := 92) (l1 := [some (.ref 20), some (.long y1), none, some (.int x3), some (.int x4), some (.int x5), some (.int x6), some (.int x7), some (.int 1)]) (st1 := [.ref 20]) rfl ?_
      refine gk_W_h (i := .getfield 27) 95 rfl rfl (h_gr (a := 19) (k := 4) (m := 24) hS ly_19 rfl) rfl ?_
      refine gk_W_s 6 (pc1 := 106) (l1 := [some (.ref 20), some (.long y1), none, some (.int x3), some (.int x4), some (.int x5), some (.int x6), some (.int x7), some (.int 1)]) (st1 := [.int x6, .long y1, .ref 20, .int x7, .ref 24]) rfl ?_
      refine gk_W_c (i := .invokestatic 75) [.int (f_26 y1 x6), .ref 20, .int x7, .ref 24] 109 rfl rfl rfl (f_26_E y1 x6) rfl rfl ?_
      refine gk_W_s 2 (pc1 := 112) (l1 := [some (.ref 20), some (.long y1), none, some (.int x3), some (.int x4), some (.int x5), some (.int x6), some (.int x7), some (.int 1)]) (st1 := [.int x7, .int x3, .int (f_26 y1 x6), .ref 20, .int x7, .ref 24]) rfl ?_
      obtain ⟨v5, hE4, h⟩ := h
      refine gk_W_c (i := .invokevirtual 111) [.long v5, .int x7, .ref 24] 115 rfl rfl (c_v (a := 19) hS ly_19 rfl rfl (Nat.le_of_ble_eq_true rfl)) hE4 rfl rfl ?_
      refine gk_W_s 1 (pc1 := 119) (l1 := [some (.ref 20), some (.long y1), none, some (.int x3), some (.int x4), some (.int x5), some (.int x6), some (.int x7), some (.int 1)]) (st1 := [.long v5, .int x7, .ref 24]) rfl ?_
      obtain ⟨hb6, h⟩ := h
      refine gk_W_h (i := .lastore) 120 rfl rfl (h_ls (a := 23) hS ly_23 hb6) rfl ?_
      refine gk_W_s 2 (pc1 := 65) (l1 := [some (.ref 20), some (.long y1), none, some (.int x3), some (.int x4), some (.int x5), some (.int x6), some (.int (x7 + (-1))), some (.int 1)]) (st1 := []) rfl ?_
      exact gk_W_le (gk_le_s (gk_le_s (gk_le_s (gk_le_s (gk_le_s (gk_le_s (gk_le_s (gk_le_s (gk_le_n (gk_le_0)))))))))) h
/-- GrammarDesk$Trial.waysUpTo(III)J, at 0 -/
theorem sg_133_0 {d : Nat} {rr : List gk_S} {w w' : gk_Wd} {r : gk_Res} (hS : gk_Sh rr w) (x1 : Int32) (x2 : Int32) (x3 : Int32)
    (h : gk_W none (d + 2) 133 6 [some (.ref 20), some (.int x1), none, some (.int x3), some (.long 0), none, some (.int x2)] [] w r w') :
    gk_W none (d + 2) 133 0 [some (.ref 20), some (.int x1), some (.int x2), some (.int x3), none, none, none] [] w r w' := by
  refine gk_W_s 4 (pc1 := 6) (l1 := [some (.ref 20), some (.int x1), some (.int x2), some (.int x3), some (.long 0), none, some (.int x2)]) (st1 := []) rfl ?_
  exact gk_W_le (gk_le_s (gk_le_s (gk_le_n (gk_le_s (gk_le_s (gk_le_s (gk_le_s (gk_le_0)))))))) h
/-- GrammarDesk$Trial.waysUpTo(III)J, at 6 -/
theorem sg_133_6 {d : Nat} {rr : List gk_S} {w w' : gk_Wd} {r : gk_Res} (hS : gk_Sh rr w) (x1 : Int32) (x3 : Int32) (y4 : Int64) (x6 : Int32)
    (h : ((x3 ≤ x6 → (r = .inl (some (.long (if y4 < 1000000 then y4 else 1000000))) ∧ w' = w)) ∧ (¬ (x3 ≤ x6) → (gk_out x6 11 = false ∧ (((lg_cmp ((w_l w 23).getD x6.toNatClampNeg 0) 0) = 0 → gk_W none (d + 2) 133 6 [some (.ref 20), some (.int x1), none, some (.int x3), some (.long y4), none, some (.int (x6 + 1))] [] w r w') ∧ (¬ ((lg_cmp ((w_l w 23).getD x6.toNatClampNeg 0) 0) = 0) → (gk_out x6 11 = false ∧ ((((f_28 x1) = 0) → ¬ (¬ x3 = (x6 + 1)) → gk_out x6 10 = false) ∧ (¬ ((f_28 x1) = 0) → gk_out (f_131 x1 x6 x3) 1936 = false) ∧ gk_W none (d + 2) 133 6 [some (.ref 20), some (.int x1), none, some (.int x3), some (.long (y4 + (((w_l w 23).getD x6.toNatClampNeg 0) * ((f_134 w x1 x6 x3).toInt64)))), none, some (.int (x6 + 1))] [] w r w')))))))) :
    gk_W none (d + 2) 133 6 [some (.ref 20), some (.int x1), none, some (.int x3), some (.long y4), none, some (.int x6)] [] w r w' := by
  refine gk_W_b 3 (x3 ≤ x6) (t := 52) (e := 12) (l1 := [some (.ref 20), some (.int x1), none, some (.int x3), some (.long y4), none, some (.int x6)]) (st1 := []) rfl (fun hp1 => ?_) (fun hp1 => ?_)
  · have h := h.1 hp1
    refine gk_W_h (i := .ldc2_w 99) 55 rfl rfl rfl rfl ?_
    refine gk_W_s 1 (pc1 := 57) (l1 := [some (.ref 20), some (.int x1), none, some (.int x3), some (.long y4), none, some (.int x6)]) (st1 := [.long y4, .long 1000000]) rfl ?_
    refine gk_W_h (i := .invokestatic 105) 60 rfl rfl rfl rfl ?_
    obtain ⟨rfl, rfl⟩ := h
    exact gk_W_r (i := .lreturn) rfl rfl rfl
  · have h := h.2 hp1
    refine gk_W_s 1 (pc1 := 13) (l1 := [some (.ref 20), some (.int x1), none, some (.int x3), some (.long y4), none, some (.int x6)]) (st1 := [.ref 20]) rfl ?_
    refine gk_W_h (i := .getfield 27) 16 rfl rfl (h_gr (a := 19) (k := 4) (m := 24) hS ly_19 rfl) rfl ?_
    refine gk_W_s 1 (pc1 := 18) (l1 := [some (.ref 20), some (.int x1), none, some (.int x3), some (.long y4), none, some (.int x6)]) (st1 := [.int x6, .ref 24]) rfl ?_
    obtain ⟨hb2, h⟩ := h
    refine gk_W_h (i := .laload) 19 rfl rfl (h_ll (a := 23) hS ly_23 hb2) rfl ?_
    refine gk_W_b 3 ((lg_cmp ((w_l w 23).getD x6.toNatClampNeg 0) 0) = 0) (t := 46) (e := 24) (l1 := [some (.ref 20), some (.int x1), none, some (.int x3), some (.long y4), none, some (.int x6)]) (st1 := []) rfl (fun hp3 => ?_) (fun hp3 => ?_)
    · have h := h.1 hp3
      refine gk_W_s 2 (pc1 := 6) (l1 := [some (.ref 20), some (.int x1), none, some (.int x3), some (.long y4), none, some (.int (x6 + 1))]) (st1 := []) rfl ?_
      exact h
    · have h := h.2 hp3
      refine gk_W_s 2 (pc1 := 27) (l1 := [some (.ref 20), some (.int x1), none, some (.int x3), some (.long y4), none, some (.int x6)]) (st1 := [.ref 20, .long y4]) rfl ?_
      refine gk_W_h (i := .getfield 27) 30 rfl rfl (h_gr (a := 19) (k := 4) (m := 24) hS ly_19 rfl) rfl ?_
      refine gk_W_s 1 (pc1 := 32) (l1 := [some (.ref 20), some (.int x1), none, some (.int x3), some (.long y4), none, some (.int x6)]) (st1 := [.int x6, .ref 24, .long y4]) rfl ?_
      obtain ⟨hb4, h⟩ := h
      refine gk_W_h (i := .laload) 33 rfl rfl (h_ll (a := 23) hS ly_23 hb4) rfl ?_
      refine gk_W_s 4 (pc1 := 38) (l1 := [some (.ref 20), some (.int x1), none, some (.int x3), some (.long y4), none, some (.int x6)]) (st1 := [.int x3, .int x6, .int x1, .ref 20, .long ((w_l w 23).getD x6.toNatClampNeg 0), .long y4]) rfl ?_
      obtain ⟨hb5, hb6, h⟩ := h
      refine gk_W_c (i := .invokevirtual 115) [.int (f_134 w x1 x6 x3), .long ((w_l w 23).getD x6.toNatClampNeg 0), .long y4] 41 rfl rfl (c_v (a := 19) hS ly_19 rfl rfl (Nat.le_of_ble_eq_true rfl)) (f_134_E hS x1 x6 x3 hb5 hb6) rfl rfl ?_
      refine gk_W_s 6 (pc1 := 6) (l1 := [some (.ref 20), some (.int x1), none, some (.int x3), some (.long (y4 + (((w_l w 23).getD x6.toNatClampNeg 0) * ((f_134 w x1 x6 x3).toInt64)))), none, some (.int (x6 + 1))]) (st1 := []) rfl ?_
      exact h
/-- GrammarDesk.derive()I, at 0 -/
theorem sg_136_0 {d : Nat} {rr : List gk_S} {w w' : gk_Wd} {r : gk_Res} (hS : gk_Sh rr w)
    (h : gk_W none (d + 1) 136 2 [some (.ref 1), some (.int 0)] [] w r w') :
    gk_W none (d + 1) 136 0 [some (.ref 1), none] [] w r w' := by
  refine gk_W_s 2 (pc1 := 2) (l1 := [some (.ref 1), some (.int 0)]) (st1 := []) rfl ?_
  exact h
/-- GrammarDesk.derive()I, at 2 -/
theorem sg_136_2 {d : Nat} {rr : List gk_S} {w w' : gk_Wd} {r : gk_Res} (hS : gk_Sh rr w) (x1 : Int32)
    (h : (((f_13 w 3) ≤ x1 → (∃ (v3 : Int32), ∃ (w4 : gk_Wd), gk_E d 137 [.ref 20, .ref 4] w (.inl (some (.int v3))) w4 ∧ gk_Sh rr w4 ∧ ((¬ v3 = 0 → (r = .inl (some (.int (f_81 w4))) ∧ w' = w4)) ∧ (v3 = 0 → (5 ≤ (d + 1) ∧ r = .inr 9 ∧ w' = w4 ++ [.inl (9, [])]))))) ∧ (¬ ((f_13 w 3) ≤ x1) → ((gk_out x1 60 = false) ∧ (∃ (v9 : Int32), gk_E d 41 [.long (f_23 w 3 x1)] w (.inl (some (.int v9))) w ∧ ((¬ v9 = 0 → gk_W none (d + 1) 136 2 [some (.ref 1), some (.int (x1 + 1))] [] w r w') ∧ (v9 = 0 → (5 ≤ (d + 1) ∧ r = .inr 11 ∧ w' = w ++ [.inl (11, [])])))))))) :
    gk_W none (d + 1) 136 2 [some (.ref 1), some (.int x1)] [] w r w' := by
  refine gk_W_s 2 (pc1 := 4) (l1 := [some (.ref 1), some (.int x1)]) (st1 := [.ref 1, .int x1]) rfl ?_
  refine gk_W_h (i := .getfield 19) 7 rfl rfl (h_gr (a := 0) (k := 1) (m := 4) hS ly_0 rfl) rfl ?_
  refine gk_W_c (i := .invokevirtual 101) [.int (f_13 w 3), .int x1] 10 rfl rfl (c_v (a := 3) hS ly_3 rfl rfl (Nat.le_of_ble_eq_true rfl)) (f_13_E hS rs_3) rfl rfl ?_
  refine gk_W_b 1 ((f_13 w 3) ≤ x1) (t := 41) (e := 13) (l1 := [some (.ref 1), some (.int x1)]) (st1 := []) rfl (fun hp1 => ?_) (fun hp1 => ?_)
  · have h := h.1 hp1
    refine gk_W_s 1 (pc1 := 42) (l1 := [some (.ref 1), some (.int x1)]) (st1 := [.ref 1]) rfl ?_
    refine gk_W_h (i := .getfield 59) 45 rfl rfl (h_gr (a := 0) (k := 7) (m := 20) hS ly_0 rfl) rfl ?_
    refine gk_W_s 1 (pc1 := 46) (l1 := [some (.ref 1), some (.int x1)]) (st1 := [.ref 1, .ref 20]) rfl ?_
    refine gk_W_h (i := .getfield 19) 49 rfl rfl (h_gr (a := 0) (k := 1) (m := 4) hS ly_0 rfl) rfl ?_
    obtain ⟨v3, w4, hE2, hS5, h⟩ := h
    refine gk_W_c (i := .invokevirtual 214) [.int v3] 52 rfl rfl (c_v (a := 19) hS ly_19 rfl rfl (Nat.le_of_ble_eq_true rfl)) hE2 rfl rfl ?_
    refine gk_W_b 1 (¬ v3 = 0) (t := 63) (e := 55) (l1 := [some (.ref 1), some (.int x1)]) (st1 := []) rfl (fun hp6 => ?_) (fun hp6 => ?_)
    · have h := h.1 hp6
      refine gk_W_s 1 (pc1 := 64) (l1 := [some (.ref 1), some (.int x1)]) (st1 := [.ref 1]) rfl ?_
      refine gk_W_h (i := .getfield 59) 67 rfl rfl (h_gr (a := 0) (k := 7) (m := 20) hS5 ly_0 rfl) rfl ?_
      refine gk_W_c (i := .invokevirtual 217) [.int (f_81 w4)] 70 rfl rfl (c_v (a := 19) hS5 ly_19 rfl rfl (Nat.le_of_ble_eq_true rfl)) (f_81_E hS5) rfl rfl ?_
      obtain ⟨rfl, rfl⟩ := h
      exact gk_W_r (i := .ireturn) rfl rfl rfl
    · have h := h.2 (Decidable.not_not.mp hp6)
      obtain ⟨hd5, rfl, rfl⟩ := h
      exact gk_W_x (i := .new 77) rfl rfl ⟨Nat.le_of_ble_eq_true rfl, hd5⟩
  · have h := h.2 hp1
    refine gk_W_s 1 (pc1 := 14) (l1 := [some (.ref 1), some (.int x1)]) (st1 := [.ref 1]) rfl ?_
    refine gk_W_h (i := .getfield 19) 17 rfl rfl (h_gr (a := 0) (k := 1) (m := 4) hS ly_0 rfl) rfl ?_
    refine gk_W_s 1 (pc1 := 18) (l1 := [some (.ref 1), some (.int x1)]) (st1 := [.int x1, .ref 4]) rfl ?_
    obtain ⟨hb7, h⟩ := h
    refine gk_W_c (i := .invokevirtual 112) [.long (f_23 w 3 x1)] 21 rfl rfl (c_v (a := 3) hS ly_3 rfl rfl (Nat.le_of_ble_eq_true rfl)) (f_23_E hS rs_3 x1 hb7) rfl rfl ?_
    obtain ⟨v9, hE8, h⟩ := h
    refine gk_W_c (i := .invokestatic 211) [.int v9] 24 rfl rfl rfl hE8 rfl rfl ?_
    refine gk_W_b 1 (¬ v9 = 0) (t := 35) (e := 27) (l1 := [some (.ref 1), some (.int x1)]) (st1 := []) rfl (fun hp10 => ?_) (fun hp10 => ?_)
    · have h := h.1 hp10
      refine gk_W_s 2 (pc1 := 2) (l1 := [some (.ref 1), some (.int (x1 + 1))]) (st1 := []) rfl ?_
      exact h
    · have h := h.2 (Decidable.not_not.mp hp10)
      obtain ⟨hd5, rfl, rfl⟩ := h
      exact gk_W_x (i := .new 205) rfl rfl ⟨Nat.le_of_ble_eq_true rfl, hd5⟩
/-- GrammarDesk$Trial.search(LGrammarDesk$RuleSet;)Z, at 0 -/
theorem sg_137_0 {d : Nat} {rr : List gk_S} {w w' : gk_Wd} {r : gk_Res} (hS : gk_Sh rr w) {a : Nat} (haa : gk_rs a)
    (h : (∃ (w2 : gk_Wd), gk_E d 15 [.ref 20] w (.inl none) w2 ∧ gk_Sh rr w2 ∧ (∃ (v5 : Int32), ∃ (w6 : gk_Wd), gk_E d 73 [.ref 20, .ref (a + 1)] w2 (.inl (some (.int v5))) w6 ∧ gk_Sh rr w6 ∧ ((¬ v5 = 0 → gk_W none (d + 1) 137 28 [some (.ref 20), some (.ref (a + 1)), some (.int 0), none] [] (w_si (w_sa w6 25 ((w_a w6 25).set 0 0)) 19 8 1) r w') ∧ (v5 = 0 → (r = .inl (some (.int 0)) ∧ w' = w6)))))) :
    gk_W none (d + 1) 137 0 [some (.ref 20), some (.ref (a + 1)), none, none] [] w r w' := by
  refine gk_W_s 1 (pc1 := 1) (l1 := [some (.ref 20), some (.ref (a + 1)), none, none]) (st1 := [.ref 20]) rfl ?_
  obtain ⟨w2, hE1, hS3, h⟩ := h
  refine gk_W_c (i := .invokevirtual 43) [] 4 rfl rfl (c_v (a := 19) hS ly_19 rfl rfl (Nat.le_of_ble_eq_true rfl)) hE1 rfl rfl ?_
  refine gk_W_s 2 (pc1 := 6) (l1 := [some (.ref 20), some (.ref (a + 1)), none, none]) (st1 := [.ref (a + 1), .ref 20]) rfl ?_
  obtain ⟨v5, w6, hE4, hS7, h⟩ := h
  refine gk_W_c (i := .invokevirtual 118) [.int v5] 9 rfl rfl (c_v (a := 19) hS3 ly_19 rfl rfl (Nat.le_of_ble_eq_true rfl)) hE4 rfl rfl ?_
  refine gk_W_b 1 (¬ v5 = 0) (t := 14) (e := 12) (l1 := [some (.ref 20), some (.ref (a + 1)), none, none]) (st1 := []) rfl (fun hp8 => ?_) (fun hp8 => ?_)
  · have h := h.1 hp8
    refine gk_W_s 1 (pc1 := 15) (l1 := [some (.ref 20), some (.ref (a + 1)), none, none]) (st1 := [.ref 20]) rfl ?_
    refine gk_W_h (i := .getfield 37) 18 rfl rfl (h_gr (a := 19) (k := 7) (m := 26) hS7 ly_19 rfl) rfl ?_
    refine gk_W_s 2 (pc1 := 20) (l1 := [some (.ref 20), some (.ref (a + 1)), none, none]) (st1 := [.int 0, .int 0, .ref 26]) rfl ?_
    refine gk_W_h (i := .iastore) 21 rfl rfl (h_as (a := 25) (t := 0) hS7 ly_25 rfl rfl) rfl ?_
    refine gk_W_s 2 (pc1 := 23) (l1 := [some (.ref 20), some (.ref (a + 1)), none, none]) (st1 := [.int 1, .ref 20]) rfl ?_
    refine gk_W_h (i := .putfield 40) 26 rfl rfl (h_pi (a := 19) (k := 8) (x := 1) (sh_as hS7 ly_25 (0) 0) ly_19 rfl rfl) rfl ?_
    refine gk_W_s 2 (pc1 := 28) (l1 := [some (.ref 20), some (.ref (a + 1)), some (.int 0), none]) (st1 := []) rfl ?_
    exact h
  · have h := h.2 (Decidable.not_not.mp hp8)
    refine gk_W_s 1 (pc1 := 13) (l1 := [some (.ref 20), some (.ref (a + 1)), none, none]) (st1 := [.int 0]) rfl ?_
    obtain ⟨rfl, rfl⟩ := h
    exact gk_W_r (i := .ireturn) rfl rfl rfl
/-- GrammarDesk$Trial.search(LGrammarDesk$RuleSet;)Z, at 28 -/
theorem sg_137_28 {d : Nat} {rr : List gk_S} {w w' : gk_Wd} {r : gk_Res} (hS : gk_Sh rr w) {a : Nat} (haa : gk_rs a) (x2 : Int32)
    (h : (((w_i w 19 1) ≤ x2 → (r = .inl (some (.int 1)) ∧ w' = w_si w 19 6 (w_i w 19 1))) ∧ (¬ ((w_i w 19 1) ≤ x2) → (∃ (v3 : Int32), gk_E d 138 [.ref 20, .ref (a + 1), .int x2] w (.inl (some (.int v3))) w ∧ ((¬ v3 = ((-1)) → (gk_out x2 10 = false ∧ ((gk_out v3 60 = false) ∧ (∃ (w8 : gk_Wd), gk_E d 139 [.ref 20, .long (f_23 (w_sa w 24 ((w_a w 24).set x2.toNatClampNeg v3)) a v3)] (w_sa w 24 ((w_a w 24).set x2.toNatClampNeg v3)) (.inl none) w8 ∧ gk_Sh rr w8 ∧ gk_W none (d + 1) 137 28 [some (.ref 20), some (.ref (a + 1)), some (.int (x2 + 1)), none] [] w8 r w')))) ∧ (v3 = ((-1)) → (r = .inl (some (.int 0)) ∧ w' = w))))))) :
    gk_W none (d + 1) 137 28 [some (.ref 20), some (.ref (a + 1)), some (.int x2), none] [] w r w' := by
  refine gk_W_s 2 (pc1 := 30) (l1 := [some (.ref 20), some (.ref (a + 1)), some (.int x2), none]) (st1 := [.ref 20, .int x2]) rfl ?_
  refine gk_W_h (i := .getfield 17) 33 rfl rfl (h_gi (a := 19) (k := 1) hS ly_19 rfl) rfl ?_
  refine gk_W_b 1 ((w_i w 19 1) ≤ x2) (t := 72) (e := 36) (l1 := [some (.ref 20), some (.ref (a + 1)), some (.int x2), none]) (st1 := []) rfl (fun hp1 => ?_) (fun hp1 => ?_)
  · have h := h.1 hp1
    refine gk_W_s 2 (pc1 := 74) (l1 := [some (.ref 20), some (.ref (a + 1)), some (.int x2), none]) (st1 := [.ref 20, .ref 20]) rfl ?_
    refine gk_W_h (i := .getfield 17) 77 rfl rfl (h_gi (a := 19) (k := 1) hS ly_19 rfl) rfl ?_
    refine gk_W_h (i := .putfield 34) 80 rfl rfl (h_pi (a := 19) (k := 6) (x := w_i w 19 1) hS ly_19 rfl rfl) rfl ?_
    refine gk_W_s 1 (pc1 := 81) (l1 := [some (.ref 20), some (.ref (a + 1)), some (.int x2), none]) (st1 := [.int 1]) rfl ?_
    obtain ⟨rfl, rfl⟩ := h
    exact gk_W_r (i := .ireturn) rfl rfl rfl
  · have h := h.2 hp1
    refine gk_W_s 3 (pc1 := 39) (l1 := [some (.ref 20), some (.ref (a + 1)), some (.int x2), none]) (st1 := [.int x2, .ref (a + 1), .ref 20]) rfl ?_
    obtain ⟨v3, hE2, h⟩ := h
    refine gk_W_c (i := .invokevirtual 122) [.int v3] 42 rfl rfl (c_v (a := 19) hS ly_19 rfl rfl (Nat.le_of_ble_eq_true rfl)) hE2 rfl rfl ?_
    refine gk_W_b 4 (¬ v3 = ((-1))) (t := 50) (e := 48) (l1 := [some (.ref 20), some (.ref (a + 1)), some (.int x2), some (.int v3)]) (st1 := []) rfl (fun hp4 => ?_) (fun hp4 => ?_)
    · have h := h.1 hp4
      refine gk_W_s 1 (pc1 := 51) (l1 := [some (.ref 20), some (.ref (a + 1)), some (.int x2), some (.int v3)]) (st1 := [.ref 20]) rfl ?_
      refine gk_W_h (i := .getfield 31) 54 rfl rfl (h_gr (a := 19) (k := 5) (m := 25) hS ly_19 rfl) rfl ?_
      refine gk_W_s 2 (pc1 := 56) (l1 := [some (.ref 20), some (.ref (a + 1)), some (.int x2), some (.int v3)]) (st1 := [.int v3, .int x2, .ref 25]) rfl ?_
      obtain ⟨hb5, h⟩ := h
      refine gk_W_h (i := .iastore) 57 rfl rfl (h_as (a := 24) (t := 0) hS ly_24 hb5 rfl) rfl ?_
      refine gk_W_s 3 (pc1 := 60) (l1 := [some (.ref 20), some (.ref (a + 1)), some (.int x2), some (.int v3)]) (st1 := [.int v3, .ref (a + 1), .ref 20]) rfl ?_
      obtain ⟨hb6, h⟩ := h
      refine gk_W_c (i := .invokevirtual 60) [.long (f_23 (w_sa w 24 ((w_a w 24).set x2.toNatClampNeg v3)) a v3), .ref 20] 63 rfl rfl (c_v (a := a) (sh_as hS ly_24 (x2.toNatClampNeg) v3) haa.1 rfl rfl (Nat.le_of_ble_eq_true rfl)) (f_23_E (sh_as hS ly_24 (x2.toNatClampNeg) v3) ⟨haa.1, haa.2⟩ v3 hb6) rfl rfl ?_
      obtain ⟨w8, hE7, hS9, h⟩ := h
      refine gk_W_c (i := .invokevirtual 126) [] 66 rfl rfl (c_v (a := 19) (sh_as hS ly_24 (x2.toNatClampNeg) v3) ly_19 rfl rfl (Nat.le_of_ble_eq_true rfl)) hE7 rfl rfl ?_
      refine gk_W_s 2 (pc1 := 28) (l1 := [some (.ref 20), some (.ref (a + 1)), some (.int (x2 + 1)), some (.int v3)]) (st1 := []) rfl ?_
      exact gk_W_le (gk_le_s (gk_le_s (gk_le_s (gk_le_n (gk_le_0))))) h
    · have h := h.2 (Decidable.not_not.mp hp4)
      refine gk_W_s 1 (pc1 := 49) (l1 := [some (.ref 20), some (.ref (a + 1)), some (.int x2), some (.int v3)]) (st1 := [.int 0]) rfl ?_
      obtain ⟨rfl, rfl⟩ := h
      exact gk_W_r (i := .ireturn) rfl rfl rfl
/-- GrammarDesk$Trial.leastFitting(LGrammarDesk$RuleSet;I)I, at 0 -/
theorem sg_138_0 {d : Nat} {rr : List gk_S} {w w' : gk_Wd} {r : gk_Res} (hS : gk_Sh rr w) {a : Nat} (haa : gk_rs a) (x2 : Int32)
    (h : ((¬ (w_i w 19 8) = 0 → gk_W none (d + 1) 138 11 [some (.ref 20), some (.ref (a + 1)), some (.int x2), some (.int 0), none, none] [] w r w') ∧ ((w_i w 19 8) = 0 → (r = .inl (some (.int ((-1)))) ∧ w' = w)))) :
    gk_W none (d + 1) 138 0 [some (.ref 20), some (.ref (a + 1)), some (.int x2), none, none, none] [] w r w' := by
  refine gk_W_s 1 (pc1 := 1) (l1 := [some (.ref 20), some (.ref (a + 1)), some (.int x2), none, none, none]) (st1 := [.ref 20]) rfl ?_
  refine gk_W_h (i := .getfield 40) 4 rfl rfl (h_gi (a := 19) (k := 8) hS ly_19 rfl) rfl ?_
  refine gk_W_b 1 (¬ (w_i w 19 8) = 0) (t := 9) (e := 7) (l1 := [some (.ref 20), some (.ref (a + 1)), some (.int x2), none, none, none]) (st1 := []) rfl (fun hp1 => ?_) (fun hp1 => ?_)
  · have h := h.1 hp1
    refine gk_W_s 2 (pc1 := 11) (l1 := [some (.ref 20), some (.ref (a + 1)), some (.int x2), some (.int 0), none, none]) (st1 := []) rfl ?_
    exact h
  · have h := h.2 (Decidable.not_not.mp hp1)
    refine gk_W_s 1 (pc1 := 8) (l1 := [some (.ref 20), some (.ref (a + 1)), some (.int x2), none, none, none]) (st1 := [.int ((-1))]) rfl ?_
    obtain ⟨rfl, rfl⟩ := h
    exact gk_W_r (i := .ireturn) rfl rfl rfl
/-- GrammarDesk$Trial.leastFitting(LGrammarDesk$RuleSet;I)I, at 11 -/
theorem sg_138_11 {d : Nat} {rr : List gk_S} {w w' : gk_Wd} {r : gk_Res} (hS : gk_Sh rr w) {a : Nat} (haa : gk_rs a) (x2 : Int32) (x3 : Int32)
    (h : (((f_13 w a) ≤ x3 → (r = .inl (some (.int ((-1)))) ∧ w' = w)) ∧ (¬ ((f_13 w a) ≤ x3) → ((gk_out x3 60 = false) ∧ (gk_out ((w_i w 19 8) - 1) 20 = false ∧ ((¬ (f_25 (f_23 w a x3)) = ((w_a w 25).getD ((w_i w 19 8) - 1).toNatClampNeg 0) → gk_W none (d + 1) 138 11 [some (.ref 20), some (.ref (a + 1)), some (.int x2), some (.int (x3 + 1)), none, none] [] w r w') ∧ ((f_25 (f_23 w a x3)) = ((w_a w 25).getD ((w_i w 19 8) - 1).toNatClampNeg 0) → ((gk_out x3 60 = false) ∧ (∃ (v7 : Int32), gk_E d 75 [.ref 20, .long (f_23 w a x3), .int (1 <<< (x2 &&& 31))] w (.inl (some (.int v7))) w ∧ gk_W none (d + 1) 138 63 [some (.ref 20), some (.ref (a + 1)), some (.int x2), some (.int x3), some (.int v7), some (.int ((w_i w 19 8) - 2))] [] w r w'))))))))) :
    gk_W none (d + 1) 138 11 [some (.ref 20), some (.ref (a + 1)), some (.int x2), some (.int x3), none, none] [] w r w' := by
  refine gk_W_s 2 (pc1 := 13) (l1 := [some (.ref 20), some (.ref (a + 1)), some (.int x2), some (.int x3), none, none]) (st1 := [.ref (a + 1), .int x3]) rfl ?_
  refine gk_W_c (i := .invokevirtual 54) [.int (f_13 w a), .int x3] 16 rfl rfl (c_v (a := a) hS haa.1 rfl rfl (Nat.le_of_ble_eq_true rfl)) (f_13_E hS ⟨haa.1, haa.2⟩) rfl rfl ?_
  refine gk_W_b 1 ((f_13 w a) ≤ x3) (t := 106) (e := 19) (l1 := [some (.ref 20), some (.ref (a + 1)), some (.int x2), some (.int x3), none, none]) (st1 := []) rfl (fun hp1 => ?_) (fun hp1 => ?_)
  · have h := h.1 hp1
    refine gk_W_s 1 (pc1 := 107) (l1 := [some (.ref 20), some (.ref (a + 1)), some (.int x2), some (.int x3), none, none]) (st1 := [.int ((-1))]) rfl ?_
    obtain ⟨rfl, rfl⟩ := h
    exact gk_W_r (i := .ireturn) rfl rfl rfl
  · have h := h.2 hp1
    refine gk_W_s 2 (pc1 := 21) (l1 := [some (.ref 20), some (.ref (a + 1)), some (.int x2), some (.int x3), none, none]) (st1 := [.int x3, .ref (a + 1)]) rfl ?_
    obtain ⟨hb2, h⟩ := h
    refine gk_W_c (i := .invokevirtual 60) [.long (f_23 w a x3)] 24 rfl rfl (c_v (a := a) hS haa.1 rfl rfl (Nat.le_of_ble_eq_true rfl)) (f_23_E hS ⟨haa.1, haa.2⟩ x3 hb2) rfl rfl ?_
    refine gk_W_c (i := .invokestatic 64) [.int (f_25 (f_23 w a x3))] 27 rfl rfl rfl (f_25_E (f_23 w a x3)) rfl rfl ?_
    refine gk_W_s 1 (pc1 := 28) (l1 := [some (.ref 20), some (.ref (a + 1)), some (.int x2), some (.int x3), none, none]) (st1 := [.ref 20, .int (f_25 (f_23 w a x3))]) rfl ?_
    refine gk_W_h (i := .getfield 37) 31 rfl rfl (h_gr (a := 19) (k := 7) (m := 26) hS ly_19 rfl) rfl ?_
    refine gk_W_s 1 (pc1 := 32) (l1 := [some (.ref 20), some (.ref (a + 1)), some (.int x2), some (.int x3), none, none]) (st1 := [.ref 20, .ref 26, .int (f_25 (f_23 w a x3))]) rfl ?_
    refine gk_W_h (i := .getfield 40) 35 rfl rfl (h_gi (a := 19) (k := 8) hS ly_19 rfl) rfl ?_
    refine gk_W_s 2 (pc1 := 37) (l1 := [some (.ref 20), some (.ref (a + 1)), some (.int x2), some (.int x3), none, none]) (st1 := [.int ((w_i w 19 8) - 1), .ref 26, .int (f_25 (f_23 w a x3))]) rfl ?_
    obtain ⟨hb3, h⟩ := h
    refine gk_W_h (i := .iaload) 38 rfl rfl (h_al (a := 25) (scr := none) hS ly_25 hb3) rfl ?_
    refine gk_W_b 1 (¬ (f_25 (f_23 w a x3)) = ((w_a w 25).getD ((w_i w 19 8) - 1).toNatClampNeg 0)) (t := 100) (e := 41) (l1 := [some (.ref 20), some (.ref (a + 1)), some (.int x2), some (.int x3), none, none]) (st1 := []) rfl (fun hp4 => ?_) (fun hp4 => ?_)
    · have h := h.1 hp4
      refine gk_W_s 2 (pc1 := 11) (l1 := [some (.ref 20), some (.ref (a + 1)), some (.int x2), some (.int (x3 + 1)), none, none]) (st1 := []) rfl ?_
      exact h
    · have h := h.2 (Decidable.not_not.mp hp4)
      refine gk_W_s 3 (pc1 := 44) (l1 := [some (.ref 20), some (.ref (a + 1)), some (.int x2), some (.int x3), none, none]) (st1 := [.int x3, .ref (a + 1), .ref 20]) rfl ?_
      obtain ⟨hb5, h⟩ := h
      refine gk_W_c (i := .invokevirtual 60) [.long (f_23 w a x3), .ref 20] 47 rfl rfl (c_v (a := a) hS haa.1 rfl rfl (Nat.le_of_ble_eq_true rfl)) (f_23_E hS ⟨haa.1, haa.2⟩ x3 hb5) rfl rfl ?_
      refine gk_W_s 3 (pc1 := 50) (l1 := [some (.ref 20), some (.ref (a + 1)), some (.int x2), some (.int x3), none, none]) (st1 := [.int (1 <<< (x2 &&& 31)), .long (f_23 w a x3), .ref 20]) rfl ?_
      obtain ⟨v7, hE6, h⟩ := h
      refine gk_W_c (i := .invokevirtual 68) [.int v7] 53 rfl rfl (c_v (a := 19) hS ly_19 rfl rfl (Nat.le_of_ble_eq_true rfl)) hE6 rfl rfl ?_
      refine gk_W_s 2 (pc1 := 56) (l1 := [some (.ref 20), some (.ref (a + 1)), some (.int x2), some (.int x3), some (.int v7), none]) (st1 := [.ref 20]) rfl ?_
      refine gk_W_h (i := .getfield 40) 59 rfl rfl (h_gi (a := 19) (k := 8) hS ly_19 rfl) rfl ?_
      refine gk_W_s 3 (pc1 := 63) (l1 := [some (.ref 20), some (.ref (a + 1)), some (.int x2), some (.int x3), some (.int v7), some (.int ((w_i w 19 8) - 2))]) (st1 := []) rfl ?_
      exact h
/-- GrammarDesk$Trial.leastFitting(LGrammarDesk$RuleSet;I)I, at 63 -/
theorem sg_138_63 {d : Nat} {rr : List gk_S} {w w' : gk_Wd} {r : gk_Res} (hS : gk_Sh rr w) {a : Nat} (haa : gk_rs a) (x2 : Int32) (x3 : Int32) (x4 : Int32) (x5 : Int32)
    (h : ((x5 < 0 → (((f_79 w x4) = 0 → gk_W none (d + 1) 138 11 [some (.ref 20), some (.ref (a + 1)), some (.int x2), some (.int (x3 + 1)), none, none] [] w r w') ∧ (¬ ((f_79 w x4) = 0) → (r = .inl (some (.int x3)) ∧ w' = w)))) ∧ (¬ (x5 < 0) → (gk_out x5 20 = false ∧ (∃ (v5 : Int32), gk_E d 76 [.ref 20, .int ((w_a w 25).getD x5.toNatClampNeg 0), .int x4] w (.inl (some (.int v5))) w ∧ gk_W none (d + 1) 138 63 [some (.ref 20), some (.ref (a + 1)), some (.int x2), some (.int x3), some (.int v5), some (.int (x5 + (-1)))] [] w r w'))))) :
    gk_W none (d + 1) 138 63 [some (.ref 20), some (.ref (a + 1)), some (.int x2), some (.int x3), some (.int x4), some (.int x5)] [] w r w' := by
  refine gk_W_b 2 (x5 < 0) (t := 89) (e := 68) (l1 := [some (.ref 20), some (.ref (a + 1)), some (.int x2), some (.int x3), some (.int x4), some (.int x5)]) (st1 := []) rfl (fun hp1 => ?_) (fun hp1 => ?_)
  · have h := h.1 hp1
    refine gk_W_s 2 (pc1 := 92) (l1 := [some (.ref 20), some (.ref (a + 1)), some (.int x2), some (.int x3), some (.int x4), some (.int x5)]) (st1 := [.int x4, .ref 20]) rfl ?_
    refine gk_W_c (i := .invokevirtual 50) [.int (f_79 w x4)] 95 rfl rfl (c_v (a := 19) hS ly_19 rfl rfl (Nat.le_of_ble_eq_true rfl)) (f_79_E hS x4) rfl rfl ?_
    refine gk_W_b 1 ((f_79 w x4) = 0) (t := 100) (e := 98) (l1 := [some (.ref 20), some (.ref (a + 1)), some (.int x2), some (.int x3), some (.int x4), some (.int x5)]) (st1 := []) rfl (fun hp2 => ?_) (fun hp2 => ?_)
    · have h := h.1 hp2
      refine gk_W_s 2 (pc1 := 11) (l1 := [some (.ref 20), some (.ref (a + 1)), some (.int x2), some (.int (x3 + 1)), some (.int x4), some (.int x5)]) (st1 := []) rfl ?_
      exact gk_W_le (gk_le_s (gk_le_s (gk_le_s (gk_le_s (gk_le_n (gk_le_n (gk_le_0))))))) h
    · have h := h.2 hp2
      refine gk_W_s 1 (pc1 := 99) (l1 := [some (.ref 20), some (.ref (a + 1)), some (.int x2), some (.int x3), some (.int x4), some (.int x5)]) (st1 := [.int x3]) rfl ?_
      obtain ⟨rfl, rfl⟩ := h
      exact gk_W_r (i := .ireturn) rfl rfl rfl
  · have h := h.2 hp1
    refine gk_W_s 2 (pc1 := 70) (l1 := [some (.ref 20), some (.ref (a + 1)), some (.int x2), some (.int x3), some (.int x4), some (.int x5)]) (st1 := [.ref 20, .ref 20]) rfl ?_
    refine gk_W_h (i := .getfield 37) 73 rfl rfl (h_gr (a := 19) (k := 7) (m := 26) hS ly_19 rfl) rfl ?_
    refine gk_W_s 1 (pc1 := 75) (l1 := [some (.ref 20), some (.ref (a + 1)), some (.int x2), some (.int x3), some (.int x4), some (.int x5)]) (st1 := [.int x5, .ref 26, .ref 20]) rfl ?_
    obtain ⟨hb3, h⟩ := h
    refine gk_W_h (i := .iaload) 76 rfl rfl (h_al (a := 25) (scr := none) hS ly_25 hb3) rfl ?_
    refine gk_W_s 1 (pc1 := 78) (l1 := [some (.ref 20), some (.ref (a + 1)), some (.int x2), some (.int x3), some (.int x4), some (.int x5)]) (st1 := [.int x4, .int ((w_a w 25).getD x5.toNatClampNeg 0), .ref 20]) rfl ?_
    obtain ⟨v5, hE4, h⟩ := h
    refine gk_W_c (i := .invokevirtual 78) [.int v5] 81 rfl rfl (c_v (a := 19) hS ly_19 rfl rfl (Nat.le_of_ble_eq_true rfl)) hE4 rfl rfl ?_
    refine gk_W_s 3 (pc1 := 63) (l1 := [some (.ref 20), some (.ref (a + 1)), some (.int x2), some (.int x3), some (.int v5), some (.int (x5 + (-1)))]) (st1 := []) rfl ?_
    exact h
/-- GrammarDesk$Trial.replaceTop(J)V, at 0 -/
theorem sg_139_0 {d : Nat} {rr : List gk_S} {w w' : gk_Wd} {r : gk_Res} (hS : gk_Sh rr w) (y1 : Int64)
    (h : gk_W none (d + 1) 139 15 [some (.ref 20), some (.long y1), none, some (.int (f_24 y1))] [] (w_si w 19 8 ((w_i w 19 8) - 1)) r w') :
    gk_W none (d + 1) 139 0 [some (.ref 20), some (.long y1), none, none] [] w r w' := by
  refine gk_W_s 2 (pc1 := 2) (l1 := [some (.ref 20), some (.long y1), none, none]) (st1 := [.ref 20, .ref 20]) rfl ?_
  refine gk_W_h (i := .getfield 40) 5 rfl rfl (h_gi (a := 19) (k := 8) hS ly_19 rfl) rfl ?_
  refine gk_W_s 2 (pc1 := 7) (l1 := [some (.ref 20), some (.long y1), none, none]) (st1 := [.int ((w_i w 19 8) - 1), .ref 20]) rfl ?_
  refine gk_W_h (i := .putfield 40) 10 rfl rfl (h_pi (a := 19) (k := 8) (x := (w_i w 19 8) - 1) hS ly_19 rfl rfl) rfl ?_
  refine gk_W_s 1 (pc1 := 11) (l1 := [some (.ref 20), some (.long y1), none, none]) (st1 := [.long y1]) rfl ?_
  refine gk_W_c (i := .invokestatic 72) [.int (f_24 y1)] 14 rfl rfl rfl (f_24_E y1) rfl rfl ?_
  refine gk_W_s 1 (pc1 := 15) (l1 := [some (.ref 20), some (.long y1), none, some (.int (f_24 y1))]) (st1 := []) rfl ?_
  exact h
/-- GrammarDesk$Trial.replaceTop(J)V, at 15 -/
theorem sg_139_15 {d : Nat} {rr : List gk_S} {w w' : gk_Wd} {r : gk_Res} (hS : gk_Sh rr w) (y1 : Int64) (x3 : Int32)
    (h : ((x3 < 2 → (r = .inl none ∧ w' = w)) ∧ (¬ (x3 < 2) → ((20 ≤ (w_i w 19 8) → (r = .inl none ∧ w' = w)) ∧ (¬ (20 ≤ (w_i w 19 8)) → (gk_out (w_i w 19 8) 20 = false ∧ gk_W none (d + 1) 139 15 [some (.ref 20), some (.long y1), none, some (.int (x3 + (-1)))] [] (w_si (w_sa w 25 ((w_a w 25).set (w_i w 19 8).toNatClampNeg (f_26 y1 x3))) 19 8 ((w_i (w_sa w 25 ((w_a w 25).set (w_i w 19 8).toNatClampNeg (f_26 y1 x3))) 19 8) + 1)) r w')))))) :
    gk_W none (d + 1) 139 15 [some (.ref 20), some (.long y1), none, some (.int x3)] [] w r w' := by
  refine gk_W_b 3 (x3 < 2) (t := 62) (e := 20) (l1 := [some (.ref 20), some (.long y1), none, some (.int x3)]) (st1 := []) rfl (fun hp1 => ?_) (fun hp1 => ?_)
  · have h := h.1 hp1
    obtain ⟨rfl, rfl⟩ := h
    exact gk_W_r (i := .return_) rfl rfl rfl
  · have h := h.2 hp1
    refine gk_W_s 1 (pc1 := 21) (l1 := [some (.ref 20), some (.long y1), none, some (.int x3)]) (st1 := [.ref 20]) rfl ?_
    refine gk_W_h (i := .getfield 40) 24 rfl rfl (h_gi (a := 19) (k := 8) hS ly_19 rfl) rfl ?_
    refine gk_W_s 1 (pc1 := 25) (l1 := [some (.ref 20), some (.long y1), none, some (.int x3)]) (st1 := [.ref 20, .int (w_i w 19 8)]) rfl ?_
    refine gk_W_h (i := .getfield 37) 28 rfl rfl (h_gr (a := 19) (k := 7) (m := 26) hS ly_19 rfl) rfl ?_
    refine gk_W_h (i := .arraylength) 29 rfl rfl (h_len (a := 25) (scr := none) hS ly_25 (Nat.lt_of_sub_eq_succ rfl)) rfl ?_
    refine gk_W_b 1 (20 ≤ (w_i w 19 8)) (t := 62) (e := 32) (l1 := [some (.ref 20), some (.long y1), none, some (.int x3)]) (st1 := []) rfl (fun hp2 => ?_) (fun hp2 => ?_)
    · have h := h.1 hp2
      obtain ⟨rfl, rfl⟩ := h
      exact gk_W_r (i := .return_) rfl rfl rfl
    · have h := h.2 hp2
      refine gk_W_s 1 (pc1 := 33) (l1 := [some (.ref 20), some (.long y1), none, some (.int x3)]) (st1 := [.ref 20]) rfl ?_
      refine gk_W_h (i := .getfield 37) 36 rfl rfl (h_gr (a := 19) (k := 7) (m := 26) hS ly_19 rfl) rfl ?_
      refine gk_W_s 1 (pc1 := 37) (l1 := [some (.ref 20), some (.long y1), none, some (.int x3)]) (st1 := [.ref 20, .ref 26]) rfl ?_
      refine gk_W_h (i := .getfield 40) 40 rfl rfl (h_gi (a := 19) (k := 8) hS ly_19 rfl) rfl ?_
      refine gk_W_s 2 (pc1 := 42) (l1 := [some (.ref 20), some (.long y1), none, some (.int x3)]) (st1 := [.int x3, .long y1, .int (w_i w 19 8), .ref 26]) rfl ?_
      refine gk_W_c (i := .invokestatic 75) [.int (f_26 y1 x3), .int (w_i w 19 8), .ref 26] 45 rfl rfl rfl (f_26_E y1 x3) rfl rfl ?_
      obtain ⟨hb3, h⟩ := h
      refine gk_W_h (i := .iastore) 46 rfl rfl (h_as (a := 25) (t := 0) hS ly_25 hb3 rfl) rfl ?_
      refine gk_W_s 2 (pc1 := 48) (l1 := [some (.ref 20), some (.long y1), none, some (.int x3)]) (st1 := [.ref 20, .ref 20]) rfl ?_
      refine gk_W_h (i := .getfield 40) 51 rfl rfl (h_gi (a := 19) (k := 8) (sh_as hS ly_25 ((w_i w 19 8).toNatClampNeg) (f_26 y1 x3)) ly_19 rfl) rfl ?_
      refine gk_W_s 2 (pc1 := 53) (l1 := [some (.ref 20), some (.long y1), none, some (.int x3)]) (st1 := [.int ((w_i (w_sa w 25 ((w_a w 25).set (w_i w 19 8).toNatClampNeg (f_26 y1 x3))) 19 8) + 1), .ref 20]) rfl ?_
      refine gk_W_h (i := .putfield 40) 56 rfl rfl (h_pi (a := 19) (k := 8) (x := (w_i (w_sa w 25 ((w_a w 25).set (w_i w 19 8).toNatClampNeg (f_26 y1 x3))) 19 8) + 1) (sh_as hS ly_25 ((w_i w 19 8).toNatClampNeg) (f_26 y1 x3)) ly_19 rfl rfl) rfl ?_
      refine gk_W_s 2 (pc1 := 15) (l1 := [some (.ref 20), some (.long y1), none, some (.int (x3 + (-1)))]) (st1 := []) rfl ?_
      exact h
