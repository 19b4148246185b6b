/-! printed by wip/whole/sym.py: from cut to cut: 44 isFinite, 45 findDescendants, 47 lettered, 48 pumps, 53 study, 54 growFirsts, 55 lettersAhead, 58 growFollows, 59 growFollowsBy, 64 choosesAlways, 65 chosenBy, 108 make, 110 replaceEarlierLeads, 111 withEarlierLead, 112 replaceLead, 114 replaceOwnLeads, 115 hasOwnLead, 118 addTail, 120 replaceAllLeads, 121 nextLead, 122 nameInnerLetters, 123 standsInside, 125 nameLetter -/
/-- GrammarDesk$Growth.isFinite(LGrammarDesk$RuleSet;)Z, at 0 -/
theorem sg_44_0 {d : Nat} {rr : List gk_S} {w w' : gk_Wd} {r : gk_Res} (hS : gk_Sh rr w) {a : Nat} (haa : gk_rs a)
    (h : (∃ (w2 : gk_Wd), gk_E d 45 [.ref 18, .ref (a + 1)] w (.inl none) w2 ∧ gk_Sh rr w2 ∧ (∃ (v5 : Int32), gk_E d 47 [.ref (a + 1)] w2 (.inl (some (.int v5))) w2 ∧ gk_W none (d + 1) 44 12 [some (.ref 18), some (.ref (a + 1)), some (.int v5), some (.int 0)] [] w2 r w'))) :
    gk_W none (d + 1) 44 0 [some (.ref 18), some (.ref (a + 1)), none, none] [] w r w' := by
  refine gk_W_s 2 (pc1 := 2) (l1 := [some (.ref 18), some (.ref (a + 1)), none, none]) (st1 := [.ref (a + 1), .ref 18]) rfl ?_
  obtain ⟨w2, hE1, hS3, h⟩ := h
  refine gk_W_c (i := .invokevirtual 15) [] 5 rfl rfl (c_v (a := 17) hS ly_17 rfl rfl (Nat.le_of_ble_eq_true rfl)) hE1 rfl rfl ?_
  refine gk_W_s 1 (pc1 := 6) (l1 := [some (.ref 18), some (.ref (a + 1)), none, none]) (st1 := [.ref (a + 1)]) rfl ?_
  obtain ⟨v5, hE4, h⟩ := h
  refine gk_W_c (i := .invokestatic 19) [.int v5] 9 rfl rfl rfl hE4 rfl rfl ?_
  refine gk_W_s 3 (pc1 := 12) (l1 := [some (.ref 18), some (.ref (a + 1)), some (.int v5), some (.int 0)]) (st1 := []) rfl ?_
  exact h
/-- GrammarDesk$Growth.isFinite(LGrammarDesk$RuleSet;)Z, at 12 -/
theorem sg_44_12 {d : Nat} {rr : List gk_S} {w w' : gk_Wd} {r : gk_Res} (hS : gk_Sh rr w) {a : Nat} (haa : gk_rs a) (x2 : Int32) (x3 : Int32)
    (h : (((f_13 w a) ≤ x3 → (r = .inl (some (.int 1)) ∧ w' = w)) ∧ (¬ ((f_13 w a) ≤ x3) → ((gk_out x3 60 = false) ∧ (∃ (v4 : Int32), gk_E d 48 [.ref 18, .long (f_23 w a x3), .int x2] w (.inl (some (.int v4))) w ∧ ((v4 = 0 → gk_W none (d + 1) 44 12 [some (.ref 18), some (.ref (a + 1)), some (.int x2), some (.int (x3 + 1))] [] w r w') ∧ (¬ (v4 = 0) → (r = .inl (some (.int 0)) ∧ w' = w)))))))) :
    gk_W none (d + 1) 44 12 [some (.ref 18), some (.ref (a + 1)), some (.int x2), some (.int x3)] [] w r w' := by
  refine gk_W_s 2 (pc1 := 14) (l1 := [some (.ref 18), some (.ref (a + 1)), some (.int x2), some (.int x3)]) (st1 := [.ref (a + 1), .int x3]) rfl ?_
  refine gk_W_c (i := .invokevirtual 23) [.int (f_13 w a), .int x3] 17 rfl rfl (c_v (a := a) hS haa.1 rfl rfl (Nat.le_of_ble_eq_true rfl)) (f_13_E hS ⟨haa.1, haa.2⟩) rfl rfl ?_
  refine gk_W_b 1 ((f_13 w a) ≤ x3) (t := 41) (e := 20) (l1 := [some (.ref 18), some (.ref (a + 1)), some (.int x2), some (.int x3)]) (st1 := []) rfl (fun hp1 => ?_) (fun hp1 => ?_)
  · have h := h.1 hp1
    refine gk_W_s 1 (pc1 := 42) (l1 := [some (.ref 18), some (.ref (a + 1)), some (.int x2), some (.int x3)]) (st1 := [.int 1]) rfl ?_
    obtain ⟨rfl, rfl⟩ := h
    exact gk_W_r (i := .ireturn) rfl rfl rfl
  · have h := h.2 hp1
    refine gk_W_s 3 (pc1 := 23) (l1 := [some (.ref 18), some (.ref (a + 1)), some (.int x2), some (.int x3)]) (st1 := [.int x3, .ref (a + 1), .ref 18]) rfl ?_
    obtain ⟨hb2, h⟩ := h
    refine gk_W_c (i := .invokevirtual 29) [.long (f_23 w a x3), .ref 18] 26 rfl rfl (c_v (a := a) hS haa.1 rfl rfl (Nat.le_of_ble_eq_true rfl)) (f_23_E hS ⟨haa.1, haa.2⟩ x3 hb2) rfl rfl ?_
    refine gk_W_s 1 (pc1 := 27) (l1 := [some (.ref 18), some (.ref (a + 1)), some (.int x2), some (.int x3)]) (st1 := [.int x2, .long (f_23 w a x3), .ref 18]) rfl ?_
    obtain ⟨v4, hE3, h⟩ := h
    refine gk_W_c (i := .invokevirtual 33) [.int v4] 30 rfl rfl (c_v (a := 17) hS ly_17 rfl rfl (Nat.le_of_ble_eq_true rfl)) hE3 rfl rfl ?_
    refine gk_W_b 1 (v4 = 0) (t := 35) (e := 33) (l1 := [some (.ref 18), some (.ref (a + 1)), some (.int x2), some (.int x3)]) (st1 := []) rfl (fun hp5 => ?_) (fun hp5 => ?_)
    · have h := h.1 hp5
      refine gk_W_s 2 (pc1 := 12) (l1 := [some (.ref 18), some (.ref (a + 1)), some (.int x2), some (.int (x3 + 1))]) (st1 := []) rfl ?_
      exact h
    · have h := h.2 hp5
      refine gk_W_s 1 (pc1 := 34) (l1 := [some (.ref 18), some (.ref (a + 1)), some (.int x2), some (.int x3)]) (st1 := [.int 0]) rfl ?_
      obtain ⟨rfl, rfl⟩ := h
      exact gk_W_r (i := .ireturn) rfl rfl rfl
/-- GrammarDesk$Growth.findDescendants(LGrammarDesk$RuleSet;)V, at 0 -/
theorem sg_45_0 {d : Nat} {rr : List gk_S} {w w' : gk_Wd} {r : gk_Res} (hS : gk_Sh rr w) {a : Nat} (haa : gk_rs a)
    (h : gk_W none (d + 1) 45 2 [some (.ref 18), some (.ref (a + 1)), some (.int 0)] [] w r w') :
    gk_W none (d + 1) 45 0 [some (.ref 18), some (.ref (a + 1)), none] [] w r w' := by
  refine gk_W_s 2 (pc1 := 2) (l1 := [some (.ref 18), some (.ref (a + 1)), some (.int 0)]) (st1 := []) rfl ?_
  exact h
/-- GrammarDesk$Growth.findDescendants(LGrammarDesk$RuleSet;)V, at 2 -/
theorem sg_45_2 {d : Nat} {rr : List gk_S} {w w' : gk_Wd} {r : gk_Res} (hS : gk_Sh rr w) {a : Nat} (haa : gk_rs a) (x2 : Int32)
    (h : ((16 ≤ x2 → gk_W none (d + 1) 45 26 [some (.ref 18), some (.ref (a + 1)), some (.int 0)] [] w r w') ∧ (¬ (16 ≤ x2) → (gk_out x2 16 = false ∧ gk_W none (d + 1) 45 2 [some (.ref 18), some (.ref (a + 1)), some (.int (x2 + 1))] [] (w_sa w 18 ((w_a w 18).set x2.toNatClampNeg 0)) r w')))) :
    gk_W none (d + 1) 45 2 [some (.ref 18), some (.ref (a + 1)), some (.int x2)] [] w r w' := by
  refine gk_W_s 2 (pc1 := 4) (l1 := [some (.ref 18), some (.ref (a + 1)), some (.int x2)]) (st1 := [.ref 18, .int x2]) rfl ?_
  refine gk_W_h (i := .getfield 9) 7 rfl rfl (h_gr (a := 17) (k := 0) (m := 19) hS ly_17 rfl) rfl ?_
  refine gk_W_h (i := .arraylength) 8 rfl rfl (h_len (a := 18) (scr := none) hS ly_18 (Nat.lt_of_sub_eq_succ rfl)) rfl ?_
  refine gk_W_b 1 (16 ≤ x2) (t := 24) (e := 11) (l1 := [some (.ref 18), some (.ref (a + 1)), some (.int x2)]) (st1 := []) rfl (fun hp1 => ?_) (fun hp1 => ?_)
  · have h := h.1 hp1
    refine gk_W_s 2 (pc1 := 26) (l1 := [some (.ref 18), some (.ref (a + 1)), some (.int 0)]) (st1 := []) rfl ?_
    exact h
  · have h := h.2 hp1
    refine gk_W_s 1 (pc1 := 12) (l1 := [some (.ref 18), some (.ref (a + 1)), some (.int x2)]) (st1 := [.ref 18]) rfl ?_
    refine gk_W_h (i := .getfield 9) 15 rfl rfl (h_gr (a := 17) (k := 0) (m := 19) hS ly_17 rfl) rfl ?_
    refine gk_W_s 2 (pc1 := 17) (l1 := [some (.ref 18), some (.ref (a + 1)), some (.int x2)]) (st1 := [.int 0, .int x2, .ref 19]) rfl ?_
    obtain ⟨hb2, h⟩ := h
    refine gk_W_h (i := .iastore) 18 rfl rfl (h_as (a := 18) (t := 0) hS ly_18 hb2 rfl) rfl ?_
    refine gk_W_s 2 (pc1 := 2) (l1 := [some (.ref 18), some (.ref (a + 1)), some (.int (x2 + 1))]) (st1 := []) rfl ?_
    exact h
/-- GrammarDesk$Growth.findDescendants(LGrammarDesk$RuleSet;)V, at 26 -/
theorem sg_45_26 {d : Nat} {rr : List gk_S} {w w' : gk_Wd} {r : gk_Res} (hS : gk_Sh rr w) {a : Nat} (haa : gk_rs a) (x2 : Int32)
    (h : (((f_13 w a) ≤ x2 → (∃ (w3 : gk_Wd), gk_E d 46 [.ref 19] w (.inl none) w3 ∧ gk_Sh rr w3 ∧ (r = .inl none ∧ w' = w3))) ∧ (¬ ((f_13 w a) ≤ x2) → ((gk_out x2 60 = false) ∧ (gk_out (f_25 (f_23 w a x2)) 16 = false ∧ ((gk_out x2 60 = false) ∧ (∃ (v9 : Int32), gk_E d 33 [.long (f_23 w a x2)] w (.inl (some (.int v9))) w ∧ (gk_out (f_25 (f_23 w a x2)) 16 = false ∧ gk_W none (d + 1) 45 26 [some (.ref 18), some (.ref (a + 1)), some (.int (x2 + 1))] [] (w_sa w 18 ((w_a w 18).set (f_25 (f_23 w a x2)).toNatClampNeg (((w_a w 18).getD (f_25 (f_23 w a x2)).toNatClampNeg 0) ||| v9))) r w')))))))) :
    gk_W none (d + 1) 45 26 [some (.ref 18), some (.ref (a + 1)), some (.int x2)] [] w r w' := by
  refine gk_W_s 2 (pc1 := 28) (l1 := [some (.ref 18), some (.ref (a + 1)), some (.int x2)]) (st1 := [.ref (a + 1), .int x2]) rfl ?_
  refine gk_W_c (i := .invokevirtual 23) [.int (f_13 w a), .int x2] 31 rfl rfl (c_v (a := a) hS haa.1 rfl rfl (Nat.le_of_ble_eq_true rfl)) (f_13_E hS ⟨haa.1, haa.2⟩) rfl rfl ?_
  refine gk_W_b 1 ((f_13 w a) ≤ x2) (t := 64) (e := 34) (l1 := [some (.ref 18), some (.ref (a + 1)), some (.int x2)]) (st1 := []) rfl (fun hp1 => ?_) (fun hp1 => ?_)
  · have h := h.1 hp1
    refine gk_W_s 1 (pc1 := 65) (l1 := [some (.ref 18), some (.ref (a + 1)), some (.int x2)]) (st1 := [.ref 18]) rfl ?_
    refine gk_W_h (i := .getfield 9) 68 rfl rfl (h_gr (a := 17) (k := 0) (m := 19) hS ly_17 rfl) rfl ?_
    obtain ⟨w3, hE2, hS4, h⟩ := h
    refine gk_W_c (i := .invokestatic 44) [] 71 rfl rfl rfl hE2 rfl rfl ?_
    obtain ⟨rfl, rfl⟩ := h
    exact gk_W_r (i := .return_) rfl rfl rfl
  · have h := h.2 hp1
    refine gk_W_s 1 (pc1 := 35) (l1 := [some (.ref 18), some (.ref (a + 1)), some (.int x2)]) (st1 := [.ref 18]) rfl ?_
    refine gk_W_h (i := .getfield 9) 38 rfl rfl (h_gr (a := 17) (k := 0) (m := 19) hS ly_17 rfl) rfl ?_
    refine gk_W_s 2 (pc1 := 40) (l1 := [some (.ref 18), some (.ref (a + 1)), some (.int x2)]) (st1 := [.int x2, .ref (a + 1), .ref 19]) rfl ?_
    obtain ⟨hb5, h⟩ := h
    refine gk_W_c (i := .invokevirtual 29) [.long (f_23 w a x2), .ref 19] 43 rfl rfl (c_v (a := a) hS haa.1 rfl rfl (Nat.le_of_ble_eq_true rfl)) (f_23_E hS ⟨haa.1, haa.2⟩ x2 hb5) rfl rfl ?_
    refine gk_W_c (i := .invokestatic 37) [.int (f_25 (f_23 w a x2)), .ref 19] 46 rfl rfl rfl (f_25_E (f_23 w a x2)) rfl rfl ?_
    refine gk_W_s 1 (pc1 := 47) (l1 := [some (.ref 18), some (.ref (a + 1)), some (.int x2)]) (st1 := [.int (f_25 (f_23 w a x2)), .ref 19, .int (f_25 (f_23 w a x2)), .ref 19]) rfl ?_
    obtain ⟨hb6, h⟩ := h
    refine gk_W_h (i := .iaload) 48 rfl rfl (h_al (a := 18) (scr := none) hS ly_18 hb6) rfl ?_
    refine gk_W_s 2 (pc1 := 50) (l1 := [some (.ref 18), some (.ref (a + 1)), some (.int x2)]) (st1 := [.int x2, .ref (a + 1), .int ((w_a w 18).getD (f_25 (f_23 w a x2)).toNatClampNeg 0), .int (f_25 (f_23 w a x2)), .ref 19]) rfl ?_
    obtain ⟨hb7, h⟩ := h
    refine gk_W_c (i := .invokevirtual 29) [.long (f_23 w a x2), .int ((w_a w 18).getD (f_25 (f_23 w a x2)).toNatClampNeg 0), .int (f_25 (f_23 w a x2)), .ref 19] 53 rfl rfl (c_v (a := a) hS haa.1 rfl rfl (Nat.le_of_ble_eq_true rfl)) (f_23_E hS ⟨haa.1, haa.2⟩ x2 hb7) rfl rfl ?_
    obtain ⟨v9, hE8, h⟩ := h
    refine gk_W_c (i := .invokestatic 41) [.int v9, .int ((w_a w 18).getD (f_25 (f_23 w a x2)).toNatClampNeg 0), .int (f_25 (f_23 w a x2)), .ref 19] 56 rfl rfl rfl hE8 rfl rfl ?_
    refine gk_W_s 1 (pc1 := 57) (l1 := [some (.ref 18), some (.ref (a + 1)), some (.int x2)]) (st1 := [.int (((w_a w 18).getD (f_25 (f_23 w a x2)).toNatClampNeg 0) ||| v9), .int (f_25 (f_23 w a x2)), .ref 19]) rfl ?_
    obtain ⟨hb10, h⟩ := h
    refine gk_W_h (i := .iastore) 58 rfl rfl (h_as (a := 18) (t := 0) hS ly_18 hb10 rfl) rfl ?_
    refine gk_W_s 2 (pc1 := 26) (l1 := [some (.ref 18), some (.ref (a + 1)), some (.int (x2 + 1))]) (st1 := []) rfl ?_
    exact h
/-- GrammarDesk$Growth.lettered(LGrammarDesk$RuleSet;)I, at 0 -/
theorem sg_47_0 {d : Nat} {rr : List gk_S} {w w' : gk_Wd} {r : gk_Res} (hS : gk_Sh rr w) {a : Nat} (haa : gk_rs a)
    (h : gk_W none (d + 1) 47 4 [some (.ref (a + 1)), some (.int 0), some (.int 0), none, none, none, none] [] w r w') :
    gk_W none (d + 1) 47 0 [some (.ref (a + 1)), none, none, none, none, none, none] [] w r w' := by
  refine gk_W_s 4 (pc1 := 4) (l1 := [some (.ref (a + 1)), some (.int 0), some (.int 0), none, none, none, none]) (st1 := []) rfl ?_
  exact h
/-- GrammarDesk$Growth.lettered(LGrammarDesk$RuleSet;)I, at 4 -/
theorem sg_47_4 {d : Nat} {rr : List gk_S} {w w' : gk_Wd} {r : gk_Res} (hS : gk_Sh rr w) {a : Nat} (haa : gk_rs a) (x1 : Int32) (x2 : Int32)
    (h : ((16 ≤ x2 → (r = .inl (some (.int x1)) ∧ w' = w)) ∧ (¬ (16 ≤ x2) → gk_W none (d + 1) 47 15 [some (.ref (a + 1)), some (.int x1), some (.int x2), some (.int x1), some (.int 0), none, none] [] w r w'))) :
    gk_W none (d + 1) 47 4 [some (.ref (a + 1)), some (.int x1), some (.int x2), none, none, none, none] [] w r w' := by
  refine gk_W_b 3 (16 ≤ x2) (t := 80) (e := 10) (l1 := [some (.ref (a + 1)), some (.int x1), some (.int x2), none, none, none, none]) (st1 := []) rfl (fun hp1 => ?_) (fun hp1 => ?_)
  · have h := h.1 hp1
    refine gk_W_s 1 (pc1 := 81) (l1 := [some (.ref (a + 1)), some (.int x1), some (.int x2), none, none, none, none]) (st1 := [.int x1]) rfl ?_
    obtain ⟨rfl, rfl⟩ := h
    exact gk_W_r (i := .ireturn) rfl rfl rfl
  · have h := h.2 hp1
    refine gk_W_s 4 (pc1 := 15) (l1 := [some (.ref (a + 1)), some (.int x1), some (.int x2), some (.int x1), some (.int 0), none, none]) (st1 := []) rfl ?_
    exact h
/-- GrammarDesk$Growth.lettered(LGrammarDesk$RuleSet;)I, at 15 -/
theorem sg_47_15 {d : Nat} {rr : List gk_S} {w w' : gk_Wd} {r : gk_Res} (hS : gk_Sh rr w) {a : Nat} (haa : gk_rs a) (x1 : Int32) (x2 : Int32) (x3 : Int32) (x4 : Int32)
    (h : (((f_13 w a) ≤ x4 → ((¬ x1 = x3 → gk_W none (d + 1) 47 4 [some (.ref (a + 1)), some (.int x1), some (.int (x2 + 1)), none, none, none, none] [] w r w') ∧ (x1 = x3 → (r = .inl (some (.int x1)) ∧ w' = w)))) ∧ (¬ ((f_13 w a) ≤ x4) → ((gk_out x4 60 = false) ∧ (∃ (v5 : Int32), gk_E d 34 [.long (f_23 w a x4)] w (.inl (some (.int v5))) w ∧ ((¬ v5 = 0 → gk_W none (d + 1) 47 15 [some (.ref (a + 1)), some (.int (x1 ||| (1 <<< ((f_25 (f_23 w a x4)) &&& 31)))), some (.int x2), some (.int x3), some (.int (x4 + 1)), none, none] [] w r w') ∧ (v5 = 0 → (∃ (v8 : Int32), gk_E d 33 [.long (f_23 w a x4)] w (.inl (some (.int v8))) w ∧ (((v8 &&& x1) = 0 → gk_W none (d + 1) 47 15 [some (.ref (a + 1)), some (.int x1), some (.int x2), some (.int x3), some (.int (x4 + 1)), none, none] [] w r w') ∧ (¬ ((v8 &&& x1) = 0) → gk_W none (d + 1) 47 15 [some (.ref (a + 1)), some (.int (x1 ||| (1 <<< ((f_25 (f_23 w a x4)) &&& 31)))), some (.int x2), some (.int x3), some (.int (x4 + 1)), none, none] [] w r w')))))))))) :
    gk_W none (d + 1) 47 15 [some (.ref (a + 1)), some (.int x1), some (.int x2), some (.int x3), some (.int x4), none, none] [] w r w' := by
  refine gk_W_s 2 (pc1 := 18) (l1 := [some (.ref (a + 1)), some (.int x1), some (.int x2), some (.int x3), some (.int x4), none, none]) (st1 := [.ref (a + 1), .int x4]) rfl ?_
  refine gk_W_c (i := .invokevirtual 23) [.int (f_13 w a), .int x4] 21 rfl rfl (c_v (a := a) hS haa.1 rfl rfl (Nat.le_of_ble_eq_true rfl)) (f_13_E hS ⟨haa.1, haa.2⟩) rfl rfl ?_
  refine gk_W_b 1 ((f_13 w a) ≤ x4) (t := 66) (e := 24) (l1 := [some (.ref (a + 1)), some (.int x1), some (.int x2), some (.int x3), some (.int x4), none, none]) (st1 := []) rfl (fun hp1 => ?_) (fun hp1 => ?_)
  · have h := h.1 hp1
    refine gk_W_b 3 (¬ x1 = x3) (t := 74) (e := 71) (l1 := [some (.ref (a + 1)), some (.int x1), some (.int x2), some (.int x3), some (.int x4), none, none]) (st1 := []) rfl (fun hp2 => ?_) (fun hp2 => ?_)
    · have h := h.1 hp2
      refine gk_W_s 2 (pc1 := 4) (l1 := [some (.ref (a + 1)), some (.int x1), some (.int (x2 + 1)), some (.int x3), some (.int x4), none, none]) (st1 := []) rfl ?_
      exact gk_W_le (gk_le_s (gk_le_s (gk_le_s (gk_le_n (gk_le_n (gk_le_s (gk_le_s (gk_le_0)))))))) h
    · have h := h.2 (Decidable.not_not.mp hp2)
      refine gk_W_s 2 (pc1 := 81) (l1 := [some (.ref (a + 1)), some (.int x1), some (.int x2), some (.int x3), some (.int x4), none, none]) (st1 := [.int x1]) rfl ?_
      obtain ⟨rfl, rfl⟩ := h
      exact gk_W_r (i := .ireturn) rfl rfl rfl
  · have h := h.2 hp1
    refine gk_W_s 2 (pc1 := 27) (l1 := [some (.ref (a + 1)), some (.int x1), some (.int x2), some (.int x3), some (.int x4), none, none]) (st1 := [.int x4, .ref (a + 1)]) rfl ?_
    obtain ⟨hb3, h⟩ := h
    refine gk_W_c (i := .invokevirtual 29) [.long (f_23 w a x4)] 30 rfl rfl (c_v (a := a) hS haa.1 rfl rfl (Nat.le_of_ble_eq_true rfl)) (f_23_E hS ⟨haa.1, haa.2⟩ x4 hb3) rfl rfl ?_
    refine gk_W_s 2 (pc1 := 34) (l1 := [some (.ref (a + 1)), some (.int x1), some (.int x2), some (.int x3), some (.int x4), some (.long (f_23 w a x4)), none]) (st1 := [.long (f_23 w a x4)]) rfl ?_
    obtain ⟨v5, hE4, h⟩ := h
    refine gk_W_c (i := .invokestatic 50) [.int v5] 37 rfl rfl rfl hE4 rfl rfl ?_
    refine gk_W_b 1 (¬ v5 = 0) (t := 50) (e := 40) (l1 := [some (.ref (a + 1)), some (.int x1), some (.int x2), some (.int x3), some (.int x4), some (.long (f_23 w a x4)), none]) (st1 := []) rfl (fun hp6 => ?_) (fun hp6 => ?_)
    · have h := h.1 hp6
      refine gk_W_s 3 (pc1 := 54) (l1 := [some (.ref (a + 1)), some (.int x1), some (.int x2), some (.int x3), some (.int x4), some (.long (f_23 w a x4)), none]) (st1 := [.long (f_23 w a x4), .int 1, .int x1]) rfl ?_
      refine gk_W_c (i := .invokestatic 37) [.int (f_25 (f_23 w a x4)), .int 1, .int x1] 57 rfl rfl rfl (f_25_E (f_23 w a x4)) rfl rfl ?_
      refine gk_W_s 5 (pc1 := 15) (l1 := [some (.ref (a + 1)), some (.int (x1 ||| (1 <<< ((f_25 (f_23 w a x4)) &&& 31)))), some (.int x2), some (.int x3), some (.int (x4 + 1)), some (.long (f_23 w a x4)), none]) (st1 := []) rfl ?_
      exact gk_W_le (gk_le_s (gk_le_s (gk_le_s (gk_le_s (gk_le_s (gk_le_n (gk_le_s (gk_le_0)))))))) h
    · have h := h.2 (Decidable.not_not.mp hp6)
      refine gk_W_s 1 (pc1 := 42) (l1 := [some (.ref (a + 1)), some (.int x1), some (.int x2), some (.int x3), some (.int x4), some (.long (f_23 w a x4)), none]) (st1 := [.long (f_23 w a x4)]) rfl ?_
      obtain ⟨v8, hE7, h⟩ := h
      refine gk_W_c (i := .invokestatic 41) [.int v8] 45 rfl rfl rfl hE7 rfl rfl ?_
      refine gk_W_b 3 ((v8 &&& x1) = 0) (t := 60) (e := 50) (l1 := [some (.ref (a + 1)), some (.int x1), some (.int x2), some (.int x3), some (.int x4), some (.long (f_23 w a x4)), none]) (st1 := []) rfl (fun hp9 => ?_) (fun hp9 => ?_)
      · have h := h.1 hp9
        refine gk_W_s 2 (pc1 := 15) (l1 := [some (.ref (a + 1)), some (.int x1), some (.int x2), some (.int x3), some (.int (x4 + 1)), some (.long (f_23 w a x4)), none]) (st1 := []) rfl ?_
        exact gk_W_le (gk_le_s (gk_le_s (gk_le_s (gk_le_s (gk_le_s (gk_le_n (gk_le_s (gk_le_0)))))))) h
      · have h := h.2 hp9
        refine gk_W_s 3 (pc1 := 54) (l1 := [some (.ref (a + 1)), some (.int x1), some (.int x2), some (.int x3), some (.int x4), some (.long (f_23 w a x4)), none]) (st1 := [.long (f_23 w a x4), .int 1, .int x1]) rfl ?_
        refine gk_W_c (i := .invokestatic 37) [.int (f_25 (f_23 w a x4)), .int 1, .int x1] 57 rfl rfl rfl (f_25_E (f_23 w a x4)) rfl rfl ?_
        refine gk_W_s 5 (pc1 := 15) (l1 := [some (.ref (a + 1)), some (.int (x1 ||| (1 <<< ((f_25 (f_23 w a x4)) &&& 31)))), some (.int x2), some (.int x3), some (.int (x4 + 1)), some (.long (f_23 w a x4)), none]) (st1 := []) rfl ?_
        exact gk_W_le (gk_le_s (gk_le_s (gk_le_s (gk_le_s (gk_le_s (gk_le_n (gk_le_s (gk_le_0)))))))) h
/-- GrammarDesk$Growth.pumps(JI)Z, at 0 -/
theorem sg_48_0 {d : Nat} {rr : List gk_S} {w w' : gk_Wd} {r : gk_Res} (hS : gk_Sh rr w) (y1 : Int64) (x3 : Int32)
    (h : gk_W none (d + 2) 48 6 [some (.ref 18), some (.long y1), none, some (.int x3), some (.int 0), some (.int 1), none, none] [] w r w') :
    gk_W none (d + 2) 48 0 [some (.ref 18), some (.long y1), none, some (.int x3), none, none, none, none] [] w r w' := by
  refine gk_W_s 4 (pc1 := 6) (l1 := [some (.ref 18), some (.long y1), none, some (.int x3), some (.int 0), some (.int 1), none, none]) (st1 := []) rfl ?_
  exact h
/-- GrammarDesk$Growth.pumps(JI)Z, at 6 -/
theorem sg_48_6 {d : Nat} {rr : List gk_S} {w w' : gk_Wd} {r : gk_Res} (hS : gk_Sh rr w) (y1 : Int64) (x3 : Int32) (x4 : Int32) (x5 : Int32)
    (h : (((f_24 y1) < x5 → gk_W none (d + 2) 48 47 [some (.ref 18), some (.long y1), none, some (.int x3), some (.int x4), some (.int 1), none, none] [] w r w') ∧ (¬ ((f_24 y1) < x5) → (((f_49 (f_26 y1 x5) x3) = 0 → gk_W none (d + 2) 48 6 [some (.ref 18), some (.long y1), none, some (.int x3), some (.int (x4 + 0)), some (.int (x5 + 1)), none, none] [] w r w') ∧ (¬ ((f_49 (f_26 y1 x5) x3) = 0) → gk_W none (d + 2) 48 6 [some (.ref 18), some (.long y1), none, some (.int x3), some (.int (x4 + 1)), some (.int (x5 + 1)), none, none] [] w r w'))))) :
    gk_W none (d + 2) 48 6 [some (.ref 18), some (.long y1), none, some (.int x3), some (.int x4), some (.int x5), none, none] [] w r w' := by
  refine gk_W_s 2 (pc1 := 9) (l1 := [some (.ref 18), some (.long y1), none, some (.int x3), some (.int x4), some (.int x5), none, none]) (st1 := [.long y1, .int x5]) rfl ?_
  refine gk_W_c (i := .invokestatic 54) [.int (f_24 y1), .int x5] 12 rfl rfl rfl (f_24_E y1) rfl rfl ?_
  refine gk_W_b 1 ((f_24 y1) < x5) (t := 44) (e := 15) (l1 := [some (.ref 18), some (.long y1), none, some (.int x3), some (.int x4), some (.int x5), none, none]) (st1 := []) rfl (fun hp1 => ?_) (fun hp1 => ?_)
  · have h := h.1 hp1
    refine gk_W_s 2 (pc1 := 47) (l1 := [some (.ref 18), some (.long y1), none, some (.int x3), some (.int x4), some (.int 1), none, none]) (st1 := []) rfl ?_
    exact h
  · have h := h.2 hp1
    refine gk_W_s 3 (pc1 := 20) (l1 := [some (.ref 18), some (.long y1), none, some (.int x3), some (.int x4), some (.int x5), none, none]) (st1 := [.int x5, .long y1, .int x4]) rfl ?_
    refine gk_W_c (i := .invokestatic 57) [.int (f_26 y1 x5), .int x4] 23 rfl rfl rfl (f_26_E y1 x5) rfl rfl ?_
    refine gk_W_s 1 (pc1 := 24) (l1 := [some (.ref 18), some (.long y1), none, some (.int x3), some (.int x4), some (.int x5), none, none]) (st1 := [.int x3, .int (f_26 y1 x5), .int x4]) rfl ?_
    refine gk_W_c (i := .invokestatic 61) [.int (f_49 (f_26 y1 x5) x3), .int x4] 27 rfl rfl rfl (f_49_E (f_26 y1 x5) x3) rfl rfl ?_
    refine gk_W_b 1 ((f_49 (f_26 y1 x5) x3) = 0) (t := 34) (e := 30) (l1 := [some (.ref 18), some (.long y1), none, some (.int x3), some (.int x4), some (.int x5), none, none]) (st1 := [.int x4]) rfl (fun hp2 => ?_) (fun hp2 => ?_)
    · have h := h.1 hp2
      refine gk_W_s 5 (pc1 := 6) (l1 := [some (.ref 18), some (.long y1), none, some (.int x3), some (.int (x4 + 0)), some (.int (x5 + 1)), none, none]) (st1 := []) rfl ?_
      exact h
    · have h := h.2 hp2
      refine gk_W_s 6 (pc1 := 6) (l1 := [some (.ref 18), some (.long y1), none, some (.int x3), some (.int (x4 + 1)), some (.int (x5 + 1)), none, none]) (st1 := []) rfl ?_
      exact h
/-- GrammarDesk$Growth.pumps(JI)Z, at 47 -/
theorem sg_48_47 {d : Nat} {rr : List gk_S} {w w' : gk_Wd} {r : gk_Res} (hS : gk_Sh rr w) (y1 : Int64) (x3 : Int32) (x4 : Int32) (x5 : Int32)
    (h : (((f_24 y1) < x5 → (r = .inl (some (.int 0)) ∧ w' = w)) ∧ (¬ ((f_24 y1) < x5) → (((f_49 (f_26 y1 x5) x3) = 0 → (((f_28 (f_26 y1 x5)) = 0 → gk_W none (d + 2) 48 47 [some (.ref 18), some (.long y1), none, some (.int x3), some (.int x4), some (.int (x5 + 1)), none, none] [] w r w') ∧ (¬ ((f_28 (f_26 y1 x5)) = 0) → (((x4 - 0) ≤ 0 → gk_W none (d + 2) 48 47 [some (.ref 18), some (.long y1), none, some (.int x3), some (.int x4), some (.int (x5 + 1)), none, none] [] w r w') ∧ (¬ ((x4 - 0) ≤ 0) → (gk_out (f_26 y1 x5) 16 = false ∧ (((f_36 ((w_a w 18).getD (f_26 y1 x5).toNatClampNeg 0) (f_25 y1)) = 0 → gk_W none (d + 2) 48 47 [some (.ref 18), some (.long y1), none, some (.int x3), some (.int x4), some (.int (x5 + 1)), none, none] [] w r w') ∧ (¬ ((f_36 ((w_a w 18).getD (f_26 y1 x5).toNatClampNeg 0) (f_25 y1)) = 0) → (r = .inl (some (.int 1)) ∧ w' = w))))))))) ∧ (¬ ((f_49 (f_26 y1 x5) x3) = 0) → (((f_28 (f_26 y1 x5)) = 0 → gk_W none (d + 2) 48 47 [some (.ref 18), some (.long y1), none, some (.int x3), some (.int x4), some (.int (x5 + 1)), none, none] [] w r w') ∧ (¬ ((f_28 (f_26 y1 x5)) = 0) → (((x4 - 1) ≤ 0 → gk_W none (d + 2) 48 47 [some (.ref 18), some (.long y1), none, some (.int x3), some (.int x4), some (.int (x5 + 1)), none, none] [] w r w') ∧ (¬ ((x4 - 1) ≤ 0) → (gk_out (f_26 y1 x5) 16 = false ∧ (((f_36 ((w_a w 18).getD (f_26 y1 x5).toNatClampNeg 0) (f_25 y1)) = 0 → gk_W none (d + 2) 48 47 [some (.ref 18), some (.long y1), none, some (.int x3), some (.int x4), some (.int (x5 + 1)), none, none] [] w r w') ∧ (¬ ((f_36 ((w_a w 18).getD (f_26 y1 x5).toNatClampNeg 0) (f_25 y1)) = 0) → (r = .inl (some (.int 1)) ∧ w' = w))))))))))))) :
    gk_W none (d + 2) 48 47 [some (.ref 18), some (.long y1), none, some (.int x3), some (.int x4), some (.int x5), none, none] [] w r w' := by
  refine gk_W_s 2 (pc1 := 50) (l1 := [some (.ref 18), some (.long y1), none, some (.int x3), some (.int x4), some (.int x5), none, none]) (st1 := [.long y1, .int x5]) rfl ?_
  refine gk_W_c (i := .invokestatic 54) [.int (f_24 y1), .int x5] 53 rfl rfl rfl (f_24_E y1) rfl rfl ?_
  refine gk_W_b 1 ((f_24 y1) < x5) (t := 121) (e := 56) (l1 := [some (.ref 18), some (.long y1), none, some (.int x3), some (.int x4), some (.int x5), none, none]) (st1 := []) rfl (fun hp1 => ?_) (fun hp1 => ?_)
  · have h := h.1 hp1
    refine gk_W_s 1 (pc1 := 122) (l1 := [some (.ref 18), some (.long y1), none, some (.int x3), some (.int x4), some (.int x5), none, none]) (st1 := [.int 0]) rfl ?_
    obtain ⟨rfl, rfl⟩ := h
    exact gk_W_r (i := .ireturn) rfl rfl rfl
  · have h := h.2 hp1
    refine gk_W_s 2 (pc1 := 59) (l1 := [some (.ref 18), some (.long y1), none, some (.int x3), some (.int x4), some (.int x5), none, none]) (st1 := [.int x5, .long y1]) rfl ?_
    refine gk_W_c (i := .invokestatic 57) [.int (f_26 y1 x5)] 62 rfl rfl rfl (f_26_E y1 x5) rfl rfl ?_
    refine gk_W_s 4 (pc1 := 69) (l1 := [some (.ref 18), some (.long y1), none, some (.int x3), some (.int x4), some (.int x5), some (.int (f_26 y1 x5)), none]) (st1 := [.int x3, .int (f_26 y1 x5), .int x4]) rfl ?_
    refine gk_W_c (i := .invokestatic 61) [.int (f_49 (f_26 y1 x5) x3), .int x4] 72 rfl rfl rfl (f_49_E (f_26 y1 x5) x3) rfl rfl ?_
    refine gk_W_b 1 ((f_49 (f_26 y1 x5) x3) = 0) (t := 79) (e := 75) (l1 := [some (.ref 18), some (.long y1), none, some (.int x3), some (.int x4), some (.int x5), some (.int (f_26 y1 x5)), none]) (st1 := [.int x4]) rfl (fun hp2 => ?_) (fun hp2 => ?_)
    · have h := h.1 hp2
      refine gk_W_s 4 (pc1 := 85) (l1 := [some (.ref 18), some (.long y1), none, some (.int x3), some (.int x4), some (.int x5), some (.int (f_26 y1 x5)), some (.int (x4 - 0))]) (st1 := [.int (f_26 y1 x5)]) rfl ?_
      refine gk_W_c (i := .invokestatic 65) [.int (f_28 (f_26 y1 x5))] 88 rfl rfl rfl (f_28_E (f_26 y1 x5)) rfl rfl ?_
      refine gk_W_b 1 ((f_28 (f_26 y1 x5)) = 0) (t := 115) (e := 91) (l1 := [some (.ref 18), some (.long y1), none, some (.int x3), some (.int x4), some (.int x5), some (.int (f_26 y1 x5)), some (.int (x4 - 0))]) (st1 := []) rfl (fun hp3 => ?_) (fun hp3 => ?_)
      · have h := h.1 hp3
        refine gk_W_s 2 (pc1 := 47) (l1 := [some (.ref 18), some (.long y1), none, some (.int x3), some (.int x4), some (.int (x5 + 1)), some (.int (f_26 y1 x5)), some (.int (x4 - 0))]) (st1 := []) rfl ?_
        exact gk_W_le (gk_le_s (gk_le_s (gk_le_s (gk_le_s (gk_le_s (gk_le_s (gk_le_n (gk_le_n (gk_le_0))))))))) h
      · have h := h.2 hp3
        refine gk_W_b 2 ((x4 - 0) ≤ 0) (t := 115) (e := 96) (l1 := [some (.ref 18), some (.long y1), none, some (.int x3), some (.int x4), some (.int x5), some (.int (f_26 y1 x5)), some (.int (x4 - 0))]) (st1 := []) rfl (fun hp4 => ?_) (fun hp4 => ?_)
        · have h := h.1 hp4
          refine gk_W_s 2 (pc1 := 47) (l1 := [some (.ref 18), some (.long y1), none, some (.int x3), some (.int x4), some (.int (x5 + 1)), some (.int (f_26 y1 x5)), some (.int (x4 - 0))]) (st1 := []) rfl ?_
          exact gk_W_le (gk_le_s (gk_le_s (gk_le_s (gk_le_s (gk_le_s (gk_le_s (gk_le_n (gk_le_n (gk_le_0))))))))) h
        · have h := h.2 hp4
          refine gk_W_s 1 (pc1 := 97) (l1 := [some (.ref 18), some (.long y1), none, some (.int x3), some (.int x4), some (.int x5), some (.int (f_26 y1 x5)), some (.int (x4 - 0))]) (st1 := [.ref 18]) rfl ?_
          refine gk_W_h (i := .getfield 9) 100 rfl rfl (h_gr (a := 17) (k := 0) (m := 19) hS ly_17 rfl) rfl ?_
          refine gk_W_s 1 (pc1 := 102) (l1 := [some (.ref 18), some (.long y1), none, some (.int x3), some (.int x4), some (.int x5), some (.int (f_26 y1 x5)), some (.int (x4 - 0))]) (st1 := [.int (f_26 y1 x5), .ref 19]) rfl ?_
          obtain ⟨hb5, h⟩ := h
          refine gk_W_h (i := .iaload) 103 rfl rfl (h_al (a := 18) (scr := none) hS ly_18 hb5) rfl ?_
          refine gk_W_s 1 (pc1 := 104) (l1 := [some (.ref 18), some (.long y1), none, some (.int x3), some (.int x4), some (.int x5), some (.int (f_26 y1 x5)), some (.int (x4 - 0))]) (st1 := [.long y1, .int ((w_a w 18).getD (f_26 y1 x5).toNatClampNeg 0)]) rfl ?_
          refine gk_W_c (i := .invokestatic 37) [.int (f_25 y1), .int ((w_a w 18).getD (f_26 y1 x5).toNatClampNeg 0)] 107 rfl rfl rfl (f_25_E y1) rfl rfl ?_
          refine gk_W_c (i := .invokestatic 69) [.int (f_36 ((w_a w 18).getD (f_26 y1 x5).toNatClampNeg 0) (f_25 y1))] 110 rfl rfl rfl (f_36_E ((w_a w 18).getD (f_26 y1 x5).toNatClampNeg 0) (f_25 y1)) rfl rfl ?_
          refine gk_W_b 1 ((f_36 ((w_a w 18).getD (f_26 y1 x5).toNatClampNeg 0) (f_25 y1)) = 0) (t := 115) (e := 113) (l1 := [some (.ref 18), some (.long y1), none, some (.int x3), some (.int x4), some (.int x5), some (.int (f_26 y1 x5)), some (.int (x4 - 0))]) (st1 := []) rfl (fun hp6 => ?_) (fun hp6 => ?_)
          · have h := h.1 hp6
            refine gk_W_s 2 (pc1 := 47) (l1 := [some (.ref 18), some (.long y1), none, some (.int x3), some (.int x4), some (.int (x5 + 1)), some (.int (f_26 y1 x5)), some (.int (x4 - 0))]) (st1 := []) rfl ?_
            exact gk_W_le (gk_le_s (gk_le_s (gk_le_s (gk_le_s (gk_le_s (gk_le_s (gk_le_n (gk_le_n (gk_le_0))))))))) h
          · have h := h.2 hp6
            refine gk_W_s 1 (pc1 := 114) (l1 := [some (.ref 18), some (.long y1), none, some (.int x3), some (.int x4), some (.int x5), some (.int (f_26 y1 x5)), some (.int (x4 - 0))]) (st1 := [.int 1]) rfl ?_
            obtain ⟨rfl, rfl⟩ := h
            exact gk_W_r (i := .ireturn) rfl rfl rfl
    · have h := h.2 hp2
      refine gk_W_s 5 (pc1 := 85) (l1 := [some (.ref 18), some (.long y1), none, some (.int x3), some (.int x4), some (.int x5), some (.int (f_26 y1 x5)), some (.int (x4 - 1))]) (st1 := [.int (f_26 y1 x5)]) rfl ?_
      refine gk_W_c (i := .invokestatic 65) [.int (f_28 (f_26 y1 x5))] 88 rfl rfl rfl (f_28_E (f_26 y1 x5)) rfl rfl ?_
      refine gk_W_b 1 ((f_28 (f_26 y1 x5)) = 0) (t := 115) (e := 91) (l1 := [some (.ref 18), some (.long y1), none, some (.int x3), some (.int x4), some (.int x5), some (.int (f_26 y1 x5)), some (.int (x4 - 1))]) (st1 := []) rfl (fun hp7 => ?_) (fun hp7 => ?_)
      · have h := h.1 hp7
        refine gk_W_s 2 (pc1 := 47) (l1 := [some (.ref 18), some (.long y1), none, some (.int x3), some (.int x4), some (.int (x5 + 1)), some (.int (f_26 y1 x5)), some (.int (x4 - 1))]) (st1 := []) rfl ?_
        exact gk_W_le (gk_le_s (gk_le_s (gk_le_s (gk_le_s (gk_le_s (gk_le_s (gk_le_n (gk_le_n (gk_le_0))))))))) h
      · have h := h.2 hp7
        refine gk_W_b 2 ((x4 - 1) ≤ 0) (t := 115) (e := 96) (l1 := [some (.ref 18), some (.long y1), none, some (.int x3), some (.int x4), some (.int x5), some (.int (f_26 y1 x5)), some (.int (x4 - 1))]) (st1 := []) rfl (fun hp8 => ?_) (fun hp8 => ?_)
        · have h := h.1 hp8
          refine gk_W_s 2 (pc1 := 47) (l1 := [some (.ref 18), some (.long y1), none, some (.int x3), some (.int x4), some (.int (x5 + 1)), some (.int (f_26 y1 x5)), some (.int (x4 - 1))]) (st1 := []) rfl ?_
          exact gk_W_le (gk_le_s (gk_le_s (gk_le_s (gk_le_s (gk_le_s (gk_le_s (gk_le_n (gk_le_n (gk_le_0))))))))) h
        · have h := h.2 hp8
          refine gk_W_s 1 (pc1 := 97) (l1 := [some (.ref 18), some (.long y1), none, some (.int x3), some (.int x4), some (.int x5), some (.int (f_26 y1 x5)), some (.int (x4 - 1))]) (st1 := [.ref 18]) rfl ?_
          refine gk_W_h (i := .getfield 9) 100 rfl rfl (h_gr (a := 17) (k := 0) (m := 19) hS ly_17 rfl) rfl ?_
          refine gk_W_s 1 (pc1 := 102) (l1 := [some (.ref 18), some (.long y1), none, some (.int x3), some (.int x4), some (.int x5), some (.int (f_26 y1 x5)), some (.int (x4 - 1))]) (st1 := [.int (f_26 y1 x5), .ref 19]) rfl ?_
          obtain ⟨hb9, h⟩ := h
          refine gk_W_h (i := .iaload) 103 rfl rfl (h_al (a := 18) (scr := none) hS ly_18 hb9) rfl ?_
          refine gk_W_s 1 (pc1 := 104) (l1 := [some (.ref 18), some (.long y1), none, some (.int x3), some (.int x4), some (.int x5), some (.int (f_26 y1 x5)), some (.int (x4 - 1))]) (st1 := [.long y1, .int ((w_a w 18).getD (f_26 y1 x5).toNatClampNeg 0)]) rfl ?_
          refine gk_W_c (i := .invokestatic 37) [.int (f_25 y1), .int ((w_a w 18).getD (f_26 y1 x5).toNatClampNeg 0)] 107 rfl rfl rfl (f_25_E y1) rfl rfl ?_
          refine gk_W_c (i := .invokestatic 69) [.int (f_36 ((w_a w 18).getD (f_26 y1 x5).toNatClampNeg 0) (f_25 y1))] 110 rfl rfl rfl (f_36_E ((w_a w 18).getD (f_26 y1 x5).toNatClampNeg 0) (f_25 y1)) rfl rfl ?_
          refine gk_W_b 1 ((f_36 ((w_a w 18).getD (f_26 y1 x5).toNatClampNeg 0) (f_25 y1)) = 0) (t := 115) (e := 113) (l1 := [some (.ref 18), some (.long y1), none, some (.int x3), some (.int x4), some (.int x5), some (.int (f_26 y1 x5)), some (.int (x4 - 1))]) (st1 := []) rfl (fun hp10 => ?_) (fun hp10 => ?_)
          · have h := h.1 hp10
            refine gk_W_s 2 (pc1 := 47) (l1 := [some (.ref 18), some (.long y1), none, some (.int x3), some (.int x4), some (.int (x5 + 1)), some (.int (f_26 y1 x5)), some (.int (x4 - 1))]) (st1 := []) rfl ?_
            exact gk_W_le (gk_le_s (gk_le_s (gk_le_s (gk_le_s (gk_le_s (gk_le_s (gk_le_n (gk_le_n (gk_le_0))))))))) h
          · have h := h.2 hp10
            refine gk_W_s 1 (pc1 := 114) (l1 := [some (.ref 18), some (.long y1), none, some (.int x3), some (.int x4), some (.int x5), some (.int (f_26 y1 x5)), some (.int (x4 - 1))]) (st1 := [.int 1]) rfl ?_
            obtain ⟨rfl, rfl⟩ := h
            exact gk_W_r (i := .ireturn) rfl rfl rfl
/-- GrammarDesk$Lookahead.study(LGrammarDesk$RuleSet;)V, at 0 -/
theorem sg_53_0 {d : Nat} {rr : List gk_S} {w w' : gk_Wd} {r : gk_Res} (hS : gk_Sh rr w) {a : Nat} (haa : gk_rs a)
    (h : (∃ (v2 : Int32), gk_E d 50 [.ref (a + 1)] w (.inl (some (.int v2))) w ∧ gk_W none (d + 1) 53 10 [some (.ref 15), some (.ref (a + 1)), some (.int 0), none] [] (w_si w 14 2 v2) r w')) :
    gk_W none (d + 1) 53 0 [some (.ref 15), some (.ref (a + 1)), none, none] [] w r w' := by
  refine gk_W_s 2 (pc1 := 2) (l1 := [some (.ref 15), some (.ref (a + 1)), none, none]) (st1 := [.ref (a + 1), .ref 15]) rfl ?_
  obtain ⟨v2, hE1, h⟩ := h
  refine gk_W_c (i := .invokestatic 22) [.int v2, .ref 15] 5 rfl rfl rfl hE1 rfl rfl ?_
  refine gk_W_h (i := .putfield 18) 8 rfl rfl (h_pi (a := 14) (k := 2) (x := v2) hS ly_14 rfl rfl) rfl ?_
  refine gk_W_s 2 (pc1 := 10) (l1 := [some (.ref 15), some (.ref (a + 1)), some (.int 0), none]) (st1 := []) rfl ?_
  exact h
/-- GrammarDesk$Lookahead.study(LGrammarDesk$RuleSet;)V, at 10 -/
theorem sg_53_10 {d : Nat} {rr : List gk_S} {w w' : gk_Wd} {r : gk_Res} (hS : gk_Sh rr w) {a : Nat} (haa : gk_rs a) (x2 : Int32)
    (h : ((16 ≤ x2 → gk_W none (d + 1) 53 64 [some (.ref 15), some (.ref (a + 1)), some (.int 1), some (.int 0)] [] (w_sa w 16 ((w_a w 16).set 0 64)) r w') ∧ (¬ (16 ≤ x2) → (((f_36 (w_i w 14 2) x2) = 0 → (gk_out x2 16 = false ∧ (gk_out x2 16 = false ∧ gk_W none (d + 1) 53 10 [some (.ref 15), some (.ref (a + 1)), some (.int (x2 + 1)), none] [] (w_sa (w_sa w 15 ((w_a w 15).set x2.toNatClampNeg 0)) 16 ((w_a (w_sa w 15 ((w_a w 15).set x2.toNatClampNeg 0)) 16).set x2.toNatClampNeg 0)) r w'))) ∧ (¬ ((f_36 (w_i w 14 2) x2) = 0) → (gk_out x2 16 = false ∧ (gk_out x2 16 = false ∧ gk_W none (d + 1) 53 10 [some (.ref 15), some (.ref (a + 1)), some (.int (x2 + 1)), none] [] (w_sa (w_sa w 15 ((w_a w 15).set x2.toNatClampNeg 64)) 16 ((w_a (w_sa w 15 ((w_a w 15).set x2.toNatClampNeg 64)) 16).set x2.toNatClampNeg 0)) r w'))))))) :
    gk_W none (d + 1) 53 10 [some (.ref 15), some (.ref (a + 1)), some (.int x2), none] [] w r w' := by
  refine gk_W_b 3 (16 ≤ x2) (t := 52) (e := 16) (l1 := [some (.ref 15), some (.ref (a + 1)), some (.int x2), none]) (st1 := []) rfl (fun hp1 => ?_) (fun hp1 => ?_)
  · have h := h.1 hp1
    refine gk_W_s 1 (pc1 := 53) (l1 := [some (.ref 15), some (.ref (a + 1)), some (.int x2), none]) (st1 := [.ref 15]) rfl ?_
    refine gk_W_h (i := .getfield 15) 56 rfl rfl (h_gr (a := 14) (k := 1) (m := 17) hS ly_14 rfl) rfl ?_
    refine gk_W_s 2 (pc1 := 59) (l1 := [some (.ref 15), some (.ref (a + 1)), some (.int x2), none]) (st1 := [.int 64, .int 0, .ref 17]) rfl ?_
    refine gk_W_h (i := .iastore) 60 rfl rfl (h_as (a := 16) (t := 0) hS ly_16 rfl rfl) rfl ?_
    refine gk_W_s 4 (pc1 := 64) (l1 := [some (.ref 15), some (.ref (a + 1)), some (.int 1), some (.int 0)]) (st1 := []) rfl ?_
    exact h
  · have h := h.2 hp1
    refine gk_W_s 1 (pc1 := 17) (l1 := [some (.ref 15), some (.ref (a + 1)), some (.int x2), none]) (st1 := [.ref 15]) rfl ?_
    refine gk_W_h (i := .getfield 9) 20 rfl rfl (h_gr (a := 14) (k := 0) (m := 16) hS ly_14 rfl) rfl ?_
    refine gk_W_s 2 (pc1 := 22) (l1 := [some (.ref 15), some (.ref (a + 1)), some (.int x2), none]) (st1 := [.ref 15, .int x2, .ref 16]) rfl ?_
    refine gk_W_h (i := .getfield 18) 25 rfl rfl (h_gi (a := 14) (k := 2) hS ly_14 rfl) rfl ?_
    refine gk_W_s 1 (pc1 := 26) (l1 := [some (.ref 15), some (.ref (a + 1)), some (.int x2), none]) (st1 := [.int x2, .int (w_i w 14 2), .int x2, .ref 16]) rfl ?_
    refine gk_W_c (i := .invokestatic 27) [.int (f_36 (w_i w 14 2) x2), .int x2, .ref 16] 29 rfl rfl rfl (f_36_E (w_i w 14 2) x2) rfl rfl ?_
    refine gk_W_b 1 ((f_36 (w_i w 14 2) x2) = 0) (t := 37) (e := 32) (l1 := [some (.ref 15), some (.ref (a + 1)), some (.int x2), none]) (st1 := [.int x2, .ref 16]) rfl (fun hp2 => ?_) (fun hp2 => ?_)
    · have h := h.1 hp2
      refine gk_W_s 1 (pc1 := 38) (l1 := [some (.ref 15), some (.ref (a + 1)), some (.int x2), none]) (st1 := [.int 0, .int x2, .ref 16]) rfl ?_
      obtain ⟨hb3, h⟩ := h
      refine gk_W_h (i := .iastore) 39 rfl rfl (h_as (a := 15) (t := 0) hS ly_15 hb3 rfl) rfl ?_
      refine gk_W_s 1 (pc1 := 40) (l1 := [some (.ref 15), some (.ref (a + 1)), some (.int x2), none]) (st1 := [.ref 15]) rfl ?_
      refine gk_W_h (i := .getfield 15) 43 rfl rfl (h_gr (a := 14) (k := 1) (m := 17) (sh_as hS ly_15 (x2.toNatClampNeg) 0) ly_14 rfl) rfl ?_
      refine gk_W_s 2 (pc1 := 45) (l1 := [some (.ref 15), some (.ref (a + 1)), some (.int x2), none]) (st1 := [.int 0, .int x2, .ref 17]) rfl ?_
      obtain ⟨hb4, h⟩ := h
      refine gk_W_h (i := .iastore) 46 rfl rfl (h_as (a := 16) (t := 0) (sh_as hS ly_15 (x2.toNatClampNeg) 0) ly_16 hb4 rfl) rfl ?_
      refine gk_W_s 2 (pc1 := 10) (l1 := [some (.ref 15), some (.ref (a + 1)), some (.int (x2 + 1)), none]) (st1 := []) rfl ?_
      exact h
    · have h := h.2 hp2
      refine gk_W_s 2 (pc1 := 38) (l1 := [some (.ref 15), some (.ref (a + 1)), some (.int x2), none]) (st1 := [.int 64, .int x2, .ref 16]) rfl ?_
      obtain ⟨hb5, h⟩ := h
      refine gk_W_h (i := .iastore) 39 rfl rfl (h_as (a := 15) (t := 0) hS ly_15 hb5 rfl) rfl ?_
      refine gk_W_s 1 (pc1 := 40) (l1 := [some (.ref 15), some (.ref (a + 1)), some (.int x2), none]) (st1 := [.ref 15]) rfl ?_
      refine gk_W_h (i := .getfield 15) 43 rfl rfl (h_gr (a := 14) (k := 1) (m := 17) (sh_as hS ly_15 (x2.toNatClampNeg) 64) ly_14 rfl) rfl ?_
      refine gk_W_s 2 (pc1 := 45) (l1 := [some (.ref 15), some (.ref (a + 1)), some (.int x2), none]) (st1 := [.int 0, .int x2, .ref 17]) rfl ?_
      obtain ⟨hb6, h⟩ := h
      refine gk_W_h (i := .iastore) 46 rfl rfl (h_as (a := 16) (t := 0) (sh_as hS ly_15 (x2.toNatClampNeg) 64) ly_16 hb6 rfl) rfl ?_
      refine gk_W_s 2 (pc1 := 10) (l1 := [some (.ref 15), some (.ref (a + 1)), some (.int (x2 + 1)), none]) (st1 := []) rfl ?_
      exact h
/-- GrammarDesk$Lookahead.study(LGrammarDesk$RuleSet;)V, at 64 -/
theorem sg_53_64 {d : Nat} {rr : List gk_S} {w w' : gk_Wd} {r : gk_Res} (hS : gk_Sh rr w) {a : Nat} (haa : gk_rs a) (x2 : Int32) (x3 : Int32)
    (h : ((x2 = 0 → gk_W none (d + 1) 53 90 [some (.ref 15), some (.ref (a + 1)), some (.int 1), some (.int 0)] [] w r w') ∧ (¬ (x2 = 0) → ((113 ≤ x3 → gk_W none (d + 1) 53 90 [some (.ref 15), some (.ref (a + 1)), some (.int 1), some (.int 0)] [] w r w') ∧ (¬ (113 ≤ x3) → (∃ (v4 : Int32), ∃ (w5 : gk_Wd), gk_E d 54 [.ref 15, .ref (a + 1)] w (.inl (some (.int v4))) w5 ∧ gk_Sh rr w5 ∧ gk_W none (d + 1) 53 64 [some (.ref 15), some (.ref (a + 1)), some (.int v4), some (.int (x3 + 1))] [] w5 r w')))))) :
    gk_W none (d + 1) 53 64 [some (.ref 15), some (.ref (a + 1)), some (.int x2), some (.int x3)] [] w r w' := by
  refine gk_W_b 2 (x2 = 0) (t := 86) (e := 68) (l1 := [some (.ref 15), some (.ref (a + 1)), some (.int x2), some (.int x3)]) (st1 := []) rfl (fun hp1 => ?_) (fun hp1 => ?_)
  · have h := h.1 hp1
    refine gk_W_s 4 (pc1 := 90) (l1 := [some (.ref 15), some (.ref (a + 1)), some (.int 1), some (.int 0)]) (st1 := []) rfl ?_
    exact h
  · have h := h.2 hp1
    refine gk_W_b 3 (113 ≤ x3) (t := 86) (e := 74) (l1 := [some (.ref 15), some (.ref (a + 1)), some (.int x2), some (.int x3)]) (st1 := []) rfl (fun hp2 => ?_) (fun hp2 => ?_)
    · have h := h.1 hp2
      refine gk_W_s 4 (pc1 := 90) (l1 := [some (.ref 15), some (.ref (a + 1)), some (.int 1), some (.int 0)]) (st1 := []) rfl ?_
      exact h
    · have h := h.2 hp2
      refine gk_W_s 2 (pc1 := 76) (l1 := [some (.ref 15), some (.ref (a + 1)), some (.int x2), some (.int x3)]) (st1 := [.ref (a + 1), .ref 15]) rfl ?_
      obtain ⟨v4, w5, hE3, hS6, h⟩ := h
      refine gk_W_c (i := .invokevirtual 31) [.int v4] 79 rfl rfl (c_v (a := 14) hS ly_14 rfl rfl (Nat.le_of_ble_eq_true rfl)) hE3 rfl rfl ?_
      refine gk_W_s 3 (pc1 := 64) (l1 := [some (.ref 15), some (.ref (a + 1)), some (.int v4), some (.int (x3 + 1))]) (st1 := []) rfl ?_
      exact h
/-- GrammarDesk$Lookahead.study(LGrammarDesk$RuleSet;)V, at 90 -/
theorem sg_53_90 {d : Nat} {rr : List gk_S} {w w' : gk_Wd} {r : gk_Res} (hS : gk_Sh rr w) {a : Nat} (haa : gk_rs a) (x2 : Int32) (x3 : Int32)
    (h : ((x2 = 0 → (r = .inl none ∧ w' = w)) ∧ (¬ (x2 = 0) → ((113 ≤ x3 → (r = .inl none ∧ w' = w)) ∧ (¬ (113 ≤ x3) → (∃ (v4 : Int32), ∃ (w5 : gk_Wd), gk_E d 58 [.ref 15, .ref (a + 1)] w (.inl (some (.int v4))) w5 ∧ gk_Sh rr w5 ∧ gk_W none (d + 1) 53 90 [some (.ref 15), some (.ref (a + 1)), some (.int v4), some (.int (x3 + 1))] [] w5 r w')))))) :
    gk_W none (d + 1) 53 90 [some (.ref 15), some (.ref (a + 1)), some (.int x2), some (.int x3)] [] w r w' := by
  refine gk_W_b 2 (x2 = 0) (t := 112) (e := 94) (l1 := [some (.ref 15), some (.ref (a + 1)), some (.int x2), some (.int x3)]) (st1 := []) rfl (fun hp1 => ?_) (fun hp1 => ?_)
  · have h := h.1 hp1
    obtain ⟨rfl, rfl⟩ := h
    exact gk_W_r (i := .return_) rfl rfl rfl
  · have h := h.2 hp1
    refine gk_W_b 3 (113 ≤ x3) (t := 112) (e := 100) (l1 := [some (.ref 15), some (.ref (a + 1)), some (.int x2), some (.int x3)]) (st1 := []) rfl (fun hp2 => ?_) (fun hp2 => ?_)
    · have h := h.1 hp2
      obtain ⟨rfl, rfl⟩ := h
      exact gk_W_r (i := .return_) rfl rfl rfl
    · have h := h.2 hp2
      refine gk_W_s 2 (pc1 := 102) (l1 := [some (.ref 15), some (.ref (a + 1)), some (.int x2), some (.int x3)]) (st1 := [.ref (a + 1), .ref 15]) rfl ?_
      obtain ⟨v4, w5, hE3, hS6, h⟩ := h
      refine gk_W_c (i := .invokevirtual 35) [.int v4] 105 rfl rfl (c_v (a := 14) hS ly_14 rfl rfl (Nat.le_of_ble_eq_true rfl)) hE3 rfl rfl ?_
      refine gk_W_s 3 (pc1 := 90) (l1 := [some (.ref 15), some (.ref (a + 1)), some (.int v4), some (.int (x3 + 1))]) (st1 := []) rfl ?_
      exact h
/-- GrammarDesk$Lookahead.growFirsts(LGrammarDesk$RuleSet;)Z, at 0 -/
theorem sg_54_0 {d : Nat} {rr : List gk_S} {w w' : gk_Wd} {r : gk_Res} (hS : gk_Sh rr w) {a : Nat} (haa : gk_rs a)
    (h : gk_W none (d + 1) 54 4 [some (.ref 15), some (.ref (a + 1)), some (.int 0), some (.int 0), none, none] [] w r w') :
    gk_W none (d + 1) 54 0 [some (.ref 15), some (.ref (a + 1)), none, none, none, none] [] w r w' := by
  refine gk_W_s 4 (pc1 := 4) (l1 := [some (.ref 15), some (.ref (a + 1)), some (.int 0), some (.int 0), none, none]) (st1 := []) rfl ?_
  exact h
/-- GrammarDesk$Lookahead.growFirsts(LGrammarDesk$RuleSet;)Z, at 4 -/
theorem sg_54_4 {d : Nat} {rr : List gk_S} {w w' : gk_Wd} {r : gk_Res} (hS : gk_Sh rr w) {a : Nat} (haa : gk_rs a) (x2 : Int32) (x3 : Int32)
    (h : (((f_13 w a) ≤ x3 → (fits .boolean (.int x2) = true ∧ r = .inl (some (.int x2)) ∧ w' = w)) ∧ (¬ ((f_13 w a) ≤ x3) → ((gk_out x3 60 = false) ∧ (gk_out (f_25 (f_23 w a x3)) 16 = false ∧ ((gk_out x3 60 = false) ∧ (∃ (v6 : Int32), gk_E d 55 [.ref 15, .long (f_23 w a x3)] w (.inl (some (.int v6))) w ∧ (gk_out (f_25 (f_23 w a x3)) 16 = false ∧ (((((w_a w 15).getD (f_25 (f_23 w a x3)).toNatClampNeg 0) ||| v6) = ((w_a w 15).getD (f_25 (f_23 w a x3)).toNatClampNeg 0) → (gk_out (f_25 (f_23 w a x3)) 16 = false ∧ gk_W none (d + 1) 54 4 [some (.ref 15), some (.ref (a + 1)), some (.int (x2 ||| 0)), some (.int (x3 + 1)), none, none] [] (w_sa w 15 ((w_a w 15).set (f_25 (f_23 w a x3)).toNatClampNeg (((w_a w 15).getD (f_25 (f_23 w a x3)).toNatClampNeg 0) ||| v6))) r w')) ∧ (¬ ((((w_a w 15).getD (f_25 (f_23 w a x3)).toNatClampNeg 0) ||| v6) = ((w_a w 15).getD (f_25 (f_23 w a x3)).toNatClampNeg 0)) → (gk_out (f_25 (f_23 w a x3)) 16 = false ∧ gk_W none (d + 1) 54 4 [some (.ref 15), some (.ref (a + 1)), some (.int (x2 ||| 1)), some (.int (x3 + 1)), none, none] [] (w_sa w 15 ((w_a w 15).set (f_25 (f_23 w a x3)).toNatClampNeg (((w_a w 15).getD (f_25 (f_23 w a x3)).toNatClampNeg 0) ||| v6))) r w'))))))))))) :
    gk_W none (d + 1) 54 4 [some (.ref 15), some (.ref (a + 1)), some (.int x2), some (.int x3), none, none] [] w r w' := by
  refine gk_W_s 2 (pc1 := 6) (l1 := [some (.ref 15), some (.ref (a + 1)), some (.int x2), some (.int x3), none, none]) (st1 := [.ref (a + 1), .int x3]) rfl ?_
  refine gk_W_c (i := .invokevirtual 38) [.int (f_13 w a), .int x3] 9 rfl rfl (c_v (a := a) hS haa.1 rfl rfl (Nat.le_of_ble_eq_true rfl)) (f_13_E hS ⟨haa.1, haa.2⟩) rfl rfl ?_
  refine gk_W_b 1 ((f_13 w a) ≤ x3) (t := 76) (e := 12) (l1 := [some (.ref 15), some (.ref (a + 1)), some (.int x2), some (.int x3), none, none]) (st1 := []) rfl (fun hp1 => ?_) (fun hp1 => ?_)
  · have h := h.1 hp1
    refine gk_W_s 1 (pc1 := 77) (l1 := [some (.ref 15), some (.ref (a + 1)), some (.int x2), some (.int x3), none, none]) (st1 := [.int x2]) rfl ?_
    obtain ⟨hf, rfl, rfl⟩ := h
    exact gk_W_r (i := .ireturn) rfl rfl (gk_ret_f hf)
  · have h := h.2 hp1
    refine gk_W_s 2 (pc1 := 14) (l1 := [some (.ref 15), some (.ref (a + 1)), some (.int x2), some (.int x3), none, none]) (st1 := [.int x3, .ref (a + 1)]) rfl ?_
    obtain ⟨hb2, h⟩ := h
    refine gk_W_c (i := .invokevirtual 44) [.long (f_23 w a x3)] 17 rfl rfl (c_v (a := a) hS haa.1 rfl rfl (Nat.le_of_ble_eq_true rfl)) (f_23_E hS ⟨haa.1, haa.2⟩ x3 hb2) rfl rfl ?_
    refine gk_W_c (i := .invokestatic 48) [.int (f_25 (f_23 w a x3))] 20 rfl rfl rfl (f_25_E (f_23 w a x3)) rfl rfl ?_
    refine gk_W_s 2 (pc1 := 23) (l1 := [some (.ref 15), some (.ref (a + 1)), some (.int x2), some (.int x3), some (.int (f_25 (f_23 w a x3))), none]) (st1 := [.ref 15]) rfl ?_
    refine gk_W_h (i := .getfield 9) 26 rfl rfl (h_gr (a := 14) (k := 0) (m := 16) hS ly_14 rfl) rfl ?_
    refine gk_W_s 1 (pc1 := 28) (l1 := [some (.ref 15), some (.ref (a + 1)), some (.int x2), some (.int x3), some (.int (f_25 (f_23 w a x3))), none]) (st1 := [.int (f_25 (f_23 w a x3)), .ref 16]) rfl ?_
    obtain ⟨hb3, h⟩ := h
    refine gk_W_h (i := .iaload) 29 rfl rfl (h_al (a := 15) (scr := none) hS ly_15 hb3) rfl ?_
    refine gk_W_s 3 (pc1 := 32) (l1 := [some (.ref 15), some (.ref (a + 1)), some (.int x2), some (.int x3), some (.int (f_25 (f_23 w a x3))), none]) (st1 := [.int x3, .ref (a + 1), .ref 15, .int ((w_a w 15).getD (f_25 (f_23 w a x3)).toNatClampNeg 0)]) rfl ?_
    obtain ⟨hb4, h⟩ := h
    refine gk_W_c (i := .invokevirtual 44) [.long (f_23 w a x3), .ref 15, .int ((w_a w 15).getD (f_25 (f_23 w a x3)).toNatClampNeg 0)] 35 rfl rfl (c_v (a := a) hS haa.1 rfl rfl (Nat.le_of_ble_eq_true rfl)) (f_23_E hS ⟨haa.1, haa.2⟩ x3 hb4) rfl rfl ?_
    obtain ⟨v6, hE5, h⟩ := h
    refine gk_W_c (i := .invokevirtual 52) [.int v6, .int ((w_a w 15).getD (f_25 (f_23 w a x3)).toNatClampNeg 0)] 38 rfl rfl (c_v (a := 14) hS ly_14 rfl rfl (Nat.le_of_ble_eq_true rfl)) hE5 rfl rfl ?_
    refine gk_W_s 5 (pc1 := 45) (l1 := [some (.ref 15), some (.ref (a + 1)), some (.int x2), some (.int x3), some (.int (f_25 (f_23 w a x3))), some (.int (((w_a w 15).getD (f_25 (f_23 w a x3)).toNatClampNeg 0) ||| v6))]) (st1 := [.ref 15, .int (((w_a w 15).getD (f_25 (f_23 w a x3)).toNatClampNeg 0) ||| v6), .int x2]) rfl ?_
    refine gk_W_h (i := .getfield 9) 48 rfl rfl (h_gr (a := 14) (k := 0) (m := 16) hS ly_14 rfl) rfl ?_
    refine gk_W_s 1 (pc1 := 50) (l1 := [some (.ref 15), some (.ref (a + 1)), some (.int x2), some (.int x3), some (.int (f_25 (f_23 w a x3))), some (.int (((w_a w 15).getD (f_25 (f_23 w a x3)).toNatClampNeg 0) ||| v6))]) (st1 := [.int (f_25 (f_23 w a x3)), .ref 16, .int (((w_a w 15).getD (f_25 (f_23 w a x3)).toNatClampNeg 0) ||| v6), .int x2]) rfl ?_
    obtain ⟨hb7, h⟩ := h
    refine gk_W_h (i := .iaload) 51 rfl rfl (h_al (a := 15) (scr := none) hS ly_15 hb7) rfl ?_
    refine gk_W_b 1 ((((w_a w 15).getD (f_25 (f_23 w a x3)).toNatClampNeg 0) ||| v6) = ((w_a w 15).getD (f_25 (f_23 w a x3)).toNatClampNeg 0)) (t := 58) (e := 54) (l1 := [some (.ref 15), some (.ref (a + 1)), some (.int x2), some (.int x3), some (.int (f_25 (f_23 w a x3))), some (.int (((w_a w 15).getD (f_25 (f_23 w a x3)).toNatClampNeg 0) ||| v6))]) (st1 := [.int x2]) rfl (fun hp8 => ?_) (fun hp8 => ?_)
    · have h := h.1 hp8
      refine gk_W_s 4 (pc1 := 62) (l1 := [some (.ref 15), some (.ref (a + 1)), some (.int (x2 ||| 0)), some (.int x3), some (.int (f_25 (f_23 w a x3))), some (.int (((w_a w 15).getD (f_25 (f_23 w a x3)).toNatClampNeg 0) ||| v6))]) (st1 := [.ref 15]) rfl ?_
      refine gk_W_h (i := .getfield 9) 65 rfl rfl (h_gr (a := 14) (k := 0) (m := 16) hS ly_14 rfl) rfl ?_
      refine gk_W_s 2 (pc1 := 69) (l1 := [some (.ref 15), some (.ref (a + 1)), some (.int (x2 ||| 0)), some (.int x3), some (.int (f_25 (f_23 w a x3))), some (.int (((w_a w 15).getD (f_25 (f_23 w a x3)).toNatClampNeg 0) ||| v6))]) (st1 := [.int (((w_a w 15).getD (f_25 (f_23 w a x3)).toNatClampNeg 0) ||| v6), .int (f_25 (f_23 w a x3)), .ref 16]) rfl ?_
      obtain ⟨hb9, h⟩ := h
      refine gk_W_h (i := .iastore) 70 rfl rfl (h_as (a := 15) (t := 0) hS ly_15 hb9 rfl) rfl ?_
      refine gk_W_s 2 (pc1 := 4) (l1 := [some (.ref 15), some (.ref (a + 1)), some (.int (x2 ||| 0)), some (.int (x3 + 1)), some (.int (f_25 (f_23 w a x3))), some (.int (((w_a w 15).getD (f_25 (f_23 w a x3)).toNatClampNeg 0) ||| v6))]) (st1 := []) rfl ?_
      exact gk_W_le (gk_le_s (gk_le_s (gk_le_s (gk_le_s (gk_le_n (gk_le_n (gk_le_0))))))) h
    · have h := h.2 hp8
      refine gk_W_s 5 (pc1 := 62) (l1 := [some (.ref 15), some (.ref (a + 1)), some (.int (x2 ||| 1)), some (.int x3), some (.int (f_25 (f_23 w a x3))), some (.int (((w_a w 15).getD (f_25 (f_23 w a x3)).toNatClampNeg 0) ||| v6))]) (st1 := [.ref 15]) rfl ?_
      refine gk_W_h (i := .getfield 9) 65 rfl rfl (h_gr (a := 14) (k := 0) (m := 16) hS ly_14 rfl) rfl ?_
      refine gk_W_s 2 (pc1 := 69) (l1 := [some (.ref 15), some (.ref (a + 1)), some (.int (x2 ||| 1)), some (.int x3), some (.int (f_25 (f_23 w a x3))), some (.int (((w_a w 15).getD (f_25 (f_23 w a x3)).toNatClampNeg 0) ||| v6))]) (st1 := [.int (((w_a w 15).getD (f_25 (f_23 w a x3)).toNatClampNeg 0) ||| v6), .int (f_25 (f_23 w a x3)), .ref 16]) rfl ?_
      obtain ⟨hb10, h⟩ := h
      refine gk_W_h (i := .iastore) 70 rfl rfl (h_as (a := 15) (t := 0) hS ly_15 hb10 rfl) rfl ?_
      refine gk_W_s 2 (pc1 := 4) (l1 := [some (.ref 15), some (.ref (a + 1)), some (.int (x2 ||| 1)), some (.int (x3 + 1)), some (.int (f_25 (f_23 w a x3))), some (.int (((w_a w 15).getD (f_25 (f_23 w a x3)).toNatClampNeg 0) ||| v6))]) (st1 := []) rfl ?_
      exact gk_W_le (gk_le_s (gk_le_s (gk_le_s (gk_le_s (gk_le_n (gk_le_n (gk_le_0))))))) h
/-- GrammarDesk$Lookahead.lettersAhead(J)I, at 0 -/
theorem sg_55_0 {d : Nat} {rr : List gk_S} {w w' : gk_Wd} {r : gk_Res} (hS : gk_Sh rr w) (y1 : Int64)
    (h : gk_W none (d + 2) 55 5 [some (.ref 15), some (.long y1), none, some (.int 0), some (.int 1), none] [] w r w') :
    gk_W none (d + 2) 55 0 [some (.ref 15), some (.long y1), none, none, none, none] [] w r w' := by
  refine gk_W_s 4 (pc1 := 5) (l1 := [some (.ref 15), some (.long y1), none, some (.int 0), some (.int 1), none]) (st1 := []) rfl ?_
  exact h
/-- GrammarDesk$Lookahead.lettersAhead(J)I, at 5 -/
theorem sg_55_5 {d : Nat} {rr : List gk_S} {w w' : gk_Wd} {r : gk_Res} (hS : gk_Sh rr w) (y1 : Int64) (x3 : Int32) (x4 : Int32)
    (h : (((f_24 y1) < x4 → (r = .inl (some (.int x3)) ∧ w' = w)) ∧ (¬ ((f_24 y1) < x4) → ((¬ ((f_28 (f_26 y1 x4)) = 0) → gk_out (f_26 y1 x4) 16 = false) ∧ ((¬ (f_57 w (f_26 y1 x4)) = 0 → gk_W none (d + 2) 55 5 [some (.ref 15), some (.long y1), none, some (.int (x3 ||| (f_56 w (f_26 y1 x4)))), some (.int (x4 + 1)), none] [] w r w') ∧ ((f_57 w (f_26 y1 x4)) = 0 → (r = .inl (some (.int (x3 ||| (f_56 w (f_26 y1 x4))))) ∧ w' = w))))))) :
    gk_W none (d + 2) 55 5 [some (.ref 15), some (.long y1), none, some (.int x3), some (.int x4), none] [] w r w' := by
  refine gk_W_s 2 (pc1 := 8) (l1 := [some (.ref 15), some (.long y1), none, some (.int x3), some (.int x4), none]) (st1 := [.long y1, .int x4]) rfl ?_
  refine gk_W_c (i := .invokestatic 55) [.int (f_24 y1), .int x4] 11 rfl rfl rfl (f_24_E y1) rfl rfl ?_
  refine gk_W_b 1 ((f_24 y1) < x4) (t := 49) (e := 14) (l1 := [some (.ref 15), some (.long y1), none, some (.int x3), some (.int x4), none]) (st1 := []) rfl (fun hp1 => ?_) (fun hp1 => ?_)
  · have h := h.1 hp1
    refine gk_W_s 1 (pc1 := 50) (l1 := [some (.ref 15), some (.long y1), none, some (.int x3), some (.int x4), none]) (st1 := [.int x3]) rfl ?_
    obtain ⟨rfl, rfl⟩ := h
    exact gk_W_r (i := .ireturn) rfl rfl rfl
  · have h := h.2 hp1
    refine gk_W_s 2 (pc1 := 17) (l1 := [some (.ref 15), some (.long y1), none, some (.int x3), some (.int x4), none]) (st1 := [.int x4, .long y1]) rfl ?_
    refine gk_W_c (i := .invokestatic 58) [.int (f_26 y1 x4)] 20 rfl rfl rfl (f_26_E y1 x4) rfl rfl ?_
    refine gk_W_s 4 (pc1 := 26) (l1 := [some (.ref 15), some (.long y1), none, some (.int x3), some (.int x4), some (.int (f_26 y1 x4))]) (st1 := [.int (f_26 y1 x4), .ref 15, .int x3]) rfl ?_
    obtain ⟨hb2, h⟩ := h
    refine gk_W_c (i := .invokevirtual 62) [.int (f_56 w (f_26 y1 x4)), .int x3] 29 rfl rfl (c_v (a := 14) hS ly_14 rfl rfl (Nat.le_of_ble_eq_true rfl)) (f_56_E hS (f_26 y1 x4) hb2) rfl rfl ?_
    refine gk_W_s 4 (pc1 := 34) (l1 := [some (.ref 15), some (.long y1), none, some (.int (x3 ||| (f_56 w (f_26 y1 x4)))), some (.int x4), some (.int (f_26 y1 x4))]) (st1 := [.int (f_26 y1 x4), .ref 15]) rfl ?_
    refine gk_W_c (i := .invokevirtual 66) [.int (f_57 w (f_26 y1 x4))] 37 rfl rfl (c_v (a := 14) hS ly_14 rfl rfl (Nat.le_of_ble_eq_true rfl)) (f_57_E hS (f_26 y1 x4)) rfl rfl ?_
    refine gk_W_b 1 (¬ (f_57 w (f_26 y1 x4)) = 0) (t := 43) (e := 40) (l1 := [some (.ref 15), some (.long y1), none, some (.int (x3 ||| (f_56 w (f_26 y1 x4)))), some (.int x4), some (.int (f_26 y1 x4))]) (st1 := []) rfl (fun hp3 => ?_) (fun hp3 => ?_)
    · have h := h.1 hp3
      refine gk_W_s 2 (pc1 := 5) (l1 := [some (.ref 15), some (.long y1), none, some (.int (x3 ||| (f_56 w (f_26 y1 x4)))), some (.int (x4 + 1)), some (.int (f_26 y1 x4))]) (st1 := []) rfl ?_
      exact gk_W_le (gk_le_s (gk_le_s (gk_le_s (gk_le_s (gk_le_s (gk_le_n (gk_le_0))))))) h
    · have h := h.2 (Decidable.not_not.mp hp3)
      refine gk_W_s 2 (pc1 := 50) (l1 := [some (.ref 15), some (.long y1), none, some (.int (x3 ||| (f_56 w (f_26 y1 x4)))), some (.int x4), some (.int (f_26 y1 x4))]) (st1 := [.int (x3 ||| (f_56 w (f_26 y1 x4)))]) rfl ?_
      obtain ⟨rfl, rfl⟩ := h
      exact gk_W_r (i := .ireturn) rfl rfl rfl
/-- GrammarDesk$Lookahead.growFollows(LGrammarDesk$RuleSet;)Z, at 0 -/
theorem sg_58_0 {d : Nat} {rr : List gk_S} {w w' : gk_Wd} {r : gk_Res} (hS : gk_Sh rr w) {a : Nat} (haa : gk_rs a)
    (h : gk_W none (d + 1) 58 4 [some (.ref 15), some (.ref (a + 1)), some (.int 0), some (.int 0)] [] w r w') :
    gk_W none (d + 1) 58 0 [some (.ref 15), some (.ref (a + 1)), none, none] [] w r w' := by
  refine gk_W_s 4 (pc1 := 4) (l1 := [some (.ref 15), some (.ref (a + 1)), some (.int 0), some (.int 0)]) (st1 := []) rfl ?_
  exact h
/-- GrammarDesk$Lookahead.growFollows(LGrammarDesk$RuleSet;)Z, at 4 -/
theorem sg_58_4 {d : Nat} {rr : List gk_S} {w w' : gk_Wd} {r : gk_Res} (hS : gk_Sh rr w) {a : Nat} (haa : gk_rs a) (x2 : Int32) (x3 : Int32)
    (h : (((f_13 w a) ≤ x3 → (fits .boolean (.int x2) = true ∧ r = .inl (some (.int x2)) ∧ w' = w)) ∧ (¬ ((f_13 w a) ≤ x3) → ((gk_out x3 60 = false) ∧ (∃ (v4 : Int32), ∃ (w5 : gk_Wd), gk_E d 59 [.ref 15, .long (f_23 w a x3)] w (.inl (some (.int v4))) w5 ∧ gk_Sh rr w5 ∧ gk_W none (d + 1) 58 4 [some (.ref 15), some (.ref (a + 1)), some (.int (x2 ||| v4)), some (.int (x3 + 1))] [] w5 r w'))))) :
    gk_W none (d + 1) 58 4 [some (.ref 15), some (.ref (a + 1)), some (.int x2), some (.int x3)] [] w r w' := by
  refine gk_W_s 2 (pc1 := 6) (l1 := [some (.ref 15), some (.ref (a + 1)), some (.int x2), some (.int x3)]) (st1 := [.ref (a + 1), .int x3]) rfl ?_
  refine gk_W_c (i := .invokevirtual 38) [.int (f_13 w a), .int x3] 9 rfl rfl (c_v (a := a) hS haa.1 rfl rfl (Nat.le_of_ble_eq_true rfl)) (f_13_E hS ⟨haa.1, haa.2⟩) rfl rfl ?_
  refine gk_W_b 1 ((f_13 w a) ≤ x3) (t := 30) (e := 12) (l1 := [some (.ref 15), some (.ref (a + 1)), some (.int x2), some (.int x3)]) (st1 := []) rfl (fun hp1 => ?_) (fun hp1 => ?_)
  · have h := h.1 hp1
    refine gk_W_s 1 (pc1 := 31) (l1 := [some (.ref 15), some (.ref (a + 1)), some (.int x2), some (.int x3)]) (st1 := [.int x2]) rfl ?_
    obtain ⟨hf, rfl, rfl⟩ := h
    exact gk_W_r (i := .ireturn) rfl rfl (gk_ret_f hf)
  · have h := h.2 hp1
    refine gk_W_s 4 (pc1 := 16) (l1 := [some (.ref 15), some (.ref (a + 1)), some (.int x2), some (.int x3)]) (st1 := [.int x3, .ref (a + 1), .ref 15, .int x2]) rfl ?_
    obtain ⟨hb2, h⟩ := h
    refine gk_W_c (i := .invokevirtual 44) [.long (f_23 w a x3), .ref 15, .int x2] 19 rfl rfl (c_v (a := a) hS haa.1 rfl rfl (Nat.le_of_ble_eq_true rfl)) (f_23_E hS ⟨haa.1, haa.2⟩ x3 hb2) rfl rfl ?_
    obtain ⟨v4, w5, hE3, hS6, h⟩ := h
    refine gk_W_c (i := .invokevirtual 73) [.int v4, .int x2] 22 rfl rfl (c_v (a := 14) hS ly_14 rfl rfl (Nat.le_of_ble_eq_true rfl)) hE3 rfl rfl ?_
    refine gk_W_s 4 (pc1 := 4) (l1 := [some (.ref 15), some (.ref (a + 1)), some (.int (x2 ||| v4)), some (.int (x3 + 1))]) (st1 := []) rfl ?_
    exact h
/-- GrammarDesk$Lookahead.growFollowsBy(J)Z, at 0 -/
theorem sg_59_0 {d : Nat} {rr : List gk_S} {w w' : gk_Wd} {r : gk_Res} (hS : gk_Sh rr w) (y1 : Int64)
    (h : (gk_out (f_25 y1) 16 = false ∧ gk_W none (d + 2) 59 19 [some (.ref 15), some (.long y1), none, some (.int 0), some (.int ((w_a w 16).getD (f_25 y1).toNatClampNeg 0)), some (.int (f_24 y1)), none] [] w r w')) :
    gk_W none (d + 2) 59 0 [some (.ref 15), some (.long y1), none, none, none, none, none] [] w r w' := by
  refine gk_W_s 3 (pc1 := 3) (l1 := [some (.ref 15), some (.long y1), none, some (.int 0), none, none, none]) (st1 := [.ref 15]) rfl ?_
  refine gk_W_h (i := .getfield 15) 6 rfl rfl (h_gr (a := 14) (k := 1) (m := 17) hS ly_14 rfl) rfl ?_
  refine gk_W_s 1 (pc1 := 7) (l1 := [some (.ref 15), some (.long y1), none, some (.int 0), none, none, none]) (st1 := [.long y1, .ref 17]) rfl ?_
  refine gk_W_c (i := .invokestatic 48) [.int (f_25 y1), .ref 17] 10 rfl rfl rfl (f_25_E y1) rfl rfl ?_
  obtain ⟨hb1, h⟩ := h
  refine gk_W_h (i := .iaload) 11 rfl rfl (h_al (a := 16) (scr := none) hS ly_16 hb1) rfl ?_
  refine gk_W_s 2 (pc1 := 14) (l1 := [some (.ref 15), some (.long y1), none, some (.int 0), some (.int ((w_a w 16).getD (f_25 y1).toNatClampNeg 0)), none, none]) (st1 := [.long y1]) rfl ?_
  refine gk_W_c (i := .invokestatic 55) [.int (f_24 y1)] 17 rfl rfl rfl (f_24_E y1) rfl rfl ?_
  refine gk_W_s 1 (pc1 := 19) (l1 := [some (.ref 15), some (.long y1), none, some (.int 0), some (.int ((w_a w 16).getD (f_25 y1).toNatClampNeg 0)), some (.int (f_24 y1)), none]) (st1 := []) rfl ?_
  exact h
/-- GrammarDesk$Lookahead.growFollowsBy(J)Z, at 19 -/
theorem sg_59_19 {d : Nat} {rr : List gk_S} {w w' : gk_Wd} {r : gk_Res} (hS : gk_Sh rr w) (y1 : Int64) (x3 : Int32) (x4 : Int32) (x5 : Int32)
    (h : ((x5 < 1 → (fits .boolean (.int x3) = true ∧ r = .inl (some (.int x3)) ∧ w' = w)) ∧ (¬ (x5 < 1) → (((f_28 (f_26 y1 x5)) = 0 → (((f_57 w (f_26 y1 x5)) = 0 → ((¬ ((f_28 (f_26 y1 x5)) = 0) → gk_out (f_26 y1 x5) 16 = false) ∧ gk_W none (d + 2) 59 19 [some (.ref 15), some (.long y1), none, some (.int x3), some (.int (f_56 w (f_26 y1 x5))), some (.int (x5 + (-1))), none] [] w r w')) ∧ (¬ ((f_57 w (f_26 y1 x5)) = 0) → ((¬ ((f_28 (f_26 y1 x5)) = 0) → gk_out (f_26 y1 x5) 16 = false) ∧ gk_W none (d + 2) 59 19 [some (.ref 15), some (.long y1), none, some (.int x3), some (.int (x4 ||| (f_56 w (f_26 y1 x5)))), some (.int (x5 + (-1))), none] [] w r w')))) ∧ (¬ ((f_28 (f_26 y1 x5)) = 0) → (gk_out (f_26 y1 x5) 16 = false ∧ (((x4 &&& (((w_a w 16).getD (f_26 y1 x5).toNatClampNeg 0) ^^^ ((-1)))) = 0 → (gk_out (f_26 y1 x5) 16 = false ∧ (gk_out (f_26 y1 x5) 16 = false ∧ (((f_57 (w_sa w 16 ((w_a w 16).set (f_26 y1 x5).toNatClampNeg (((w_a w 16).getD (f_26 y1 x5).toNatClampNeg 0) ||| x4))) (f_26 y1 x5)) = 0 → ((¬ ((f_28 (f_26 y1 x5)) = 0) → gk_out (f_26 y1 x5) 16 = false) ∧ gk_W none (d + 2) 59 19 [some (.ref 15), some (.long y1), none, some (.int (x3 ||| 0)), some (.int (f_56 (w_sa w 16 ((w_a w 16).set (f_26 y1 x5).toNatClampNeg (((w_a w 16).getD (f_26 y1 x5).toNatClampNeg 0) ||| x4))) (f_26 y1 x5))), some (.int (x5 + (-1))), none] [] (w_sa w 16 ((w_a w 16).set (f_26 y1 x5).toNatClampNeg (((w_a w 16).getD (f_26 y1 x5).toNatClampNeg 0) ||| x4))) r w')) ∧ (¬ ((f_57 (w_sa w 16 ((w_a w 16).set (f_26 y1 x5).toNatClampNeg (((w_a w 16).getD (f_26 y1 x5).toNatClampNeg 0) ||| x4))) (f_26 y1 x5)) = 0) → ((¬ ((f_28 (f_26 y1 x5)) = 0) → gk_out (f_26 y1 x5) 16 = false) ∧ gk_W none (d + 2) 59 19 [some (.ref 15), some (.long y1), none, some (.int (x3 ||| 0)), some (.int (x4 ||| (f_56 (w_sa w 16 ((w_a w 16).set (f_26 y1 x5).toNatClampNeg (((w_a w 16).getD (f_26 y1 x5).toNatClampNeg 0) ||| x4))) (f_26 y1 x5)))), some (.int (x5 + (-1))), none] [] (w_sa w 16 ((w_a w 16).set (f_26 y1 x5).toNatClampNeg (((w_a w 16).getD (f_26 y1 x5).toNatClampNeg 0) ||| x4))) r w')))))) ∧ (¬ ((x4 &&& (((w_a w 16).getD (f_26 y1 x5).toNatClampNeg 0) ^^^ ((-1)))) = 0) → (gk_out (f_26 y1 x5) 16 = false ∧ (gk_out (f_26 y1 x5) 16 = false ∧ (((f_57 (w_sa w 16 ((w_a w 16).set (f_26 y1 x5).toNatClampNeg (((w_a w 16).getD (f_26 y1 x5).toNatClampNeg 0) ||| x4))) (f_26 y1 x5)) = 0 → ((¬ ((f_28 (f_26 y1 x5)) = 0) → gk_out (f_26 y1 x5) 16 = false) ∧ gk_W none (d + 2) 59 19 [some (.ref 15), some (.long y1), none, some (.int (x3 ||| 1)), some (.int (f_56 (w_sa w 16 ((w_a w 16).set (f_26 y1 x5).toNatClampNeg (((w_a w 16).getD (f_26 y1 x5).toNatClampNeg 0) ||| x4))) (f_26 y1 x5))), some (.int (x5 + (-1))), none] [] (w_sa w 16 ((w_a w 16).set (f_26 y1 x5).toNatClampNeg (((w_a w 16).getD (f_26 y1 x5).toNatClampNeg 0) ||| x4))) r w')) ∧ (¬ ((f_57 (w_sa w 16 ((w_a w 16).set (f_26 y1 x5).toNatClampNeg (((w_a w 16).getD (f_26 y1 x5).toNatClampNeg 0) ||| x4))) (f_26 y1 x5)) = 0) → ((¬ ((f_28 (f_26 y1 x5)) = 0) → gk_out (f_26 y1 x5) 16 = false) ∧ gk_W none (d + 2) 59 19 [some (.ref 15), some (.long y1), none, some (.int (x3 ||| 1)), some (.int (x4 ||| (f_56 (w_sa w 16 ((w_a w 16).set (f_26 y1 x5).toNatClampNeg (((w_a w 16).getD (f_26 y1 x5).toNatClampNeg 0) ||| x4))) (f_26 y1 x5)))), some (.int (x5 + (-1))), none] [] (w_sa w 16 ((w_a w 16).set (f_26 y1 x5).toNatClampNeg (((w_a w 16).getD (f_26 y1 x5).toNatClampNeg 0) ||| x4))) r w'))))))))))))) :
    gk_W none (d + 2) 59 19 [some (.ref 15), some (.long y1), none, some (.int x3), some (.int x4), some (.int x5), none] [] w r w' := by
  refine gk_W_b 3 (x5 < 1) (t := 111) (e := 25) (l1 := [some (.ref 15), some (.long y1), none, some (.int x3), some (.int x4), some (.int x5), none]) (st1 := []) rfl (fun hp1 => ?_) (fun hp1 => ?_)
  · have h := h.1 hp1
    refine gk_W_s 1 (pc1 := 112) (l1 := [some (.ref 15), some (.long y1), none, some (.int x3), some (.int x4), some (.int x5), none]) (st1 := [.int x3]) rfl ?_
    obtain ⟨hf, rfl, rfl⟩ := h
    exact gk_W_r (i := .ireturn) rfl rfl (gk_ret_f hf)
  · have h := h.2 hp1
    refine gk_W_s 2 (pc1 := 28) (l1 := [some (.ref 15), some (.long y1), none, some (.int x3), some (.int x4), some (.int x5), none]) (st1 := [.int x5, .long y1]) rfl ?_
    refine gk_W_c (i := .invokestatic 58) [.int (f_26 y1 x5)] 31 rfl rfl rfl (f_26_E y1 x5) rfl rfl ?_
    refine gk_W_s 2 (pc1 := 35) (l1 := [some (.ref 15), some (.long y1), none, some (.int x3), some (.int x4), some (.int x5), some (.int (f_26 y1 x5))]) (st1 := [.int (f_26 y1 x5)]) rfl ?_
    refine gk_W_c (i := .invokestatic 70) [.int (f_28 (f_26 y1 x5))] 38 rfl rfl rfl (f_28_E (f_26 y1 x5)) rfl rfl ?_
    refine gk_W_b 1 ((f_28 (f_26 y1 x5)) = 0) (t := 76) (e := 41) (l1 := [some (.ref 15), some (.long y1), none, some (.int x3), some (.int x4), some (.int x5), some (.int (f_26 y1 x5))]) (st1 := []) rfl (fun hp2 => ?_) (fun hp2 => ?_)
    · have h := h.1 hp2
      refine gk_W_s 2 (pc1 := 79) (l1 := [some (.ref 15), some (.long y1), none, some (.int x3), some (.int x4), some (.int x5), some (.int (f_26 y1 x5))]) (st1 := [.int (f_26 y1 x5), .ref 15]) rfl ?_
      refine gk_W_c (i := .invokevirtual 66) [.int (f_57 w (f_26 y1 x5))] 82 rfl rfl (c_v (a := 14) hS ly_14 rfl rfl (Nat.le_of_ble_eq_true rfl)) (f_57_E hS (f_26 y1 x5)) rfl rfl ?_
      refine gk_W_b 1 ((f_57 w (f_26 y1 x5)) = 0) (t := 97) (e := 85) (l1 := [some (.ref 15), some (.long y1), none, some (.int x3), some (.int x4), some (.int x5), some (.int (f_26 y1 x5))]) (st1 := []) rfl (fun hp3 => ?_) (fun hp3 => ?_)
      · have h := h.1 hp3
        refine gk_W_s 2 (pc1 := 100) (l1 := [some (.ref 15), some (.long y1), none, some (.int x3), some (.int x4), some (.int x5), some (.int (f_26 y1 x5))]) (st1 := [.int (f_26 y1 x5), .ref 15]) rfl ?_
        obtain ⟨hb4, h⟩ := h
        refine gk_W_c (i := .invokevirtual 62) [.int (f_56 w (f_26 y1 x5))] 103 rfl rfl (c_v (a := 14) hS ly_14 rfl rfl (Nat.le_of_ble_eq_true rfl)) (f_56_E hS (f_26 y1 x5) hb4) rfl rfl ?_
        refine gk_W_s 3 (pc1 := 19) (l1 := [some (.ref 15), some (.long y1), none, some (.int x3), some (.int (f_56 w (f_26 y1 x5))), some (.int (x5 + (-1))), some (.int (f_26 y1 x5))]) (st1 := []) rfl ?_
        exact gk_W_le (gk_le_s (gk_le_s (gk_le_s (gk_le_s (gk_le_s (gk_le_s (gk_le_n (gk_le_0)))))))) h
      · have h := h.2 hp3
        refine gk_W_s 3 (pc1 := 90) (l1 := [some (.ref 15), some (.long y1), none, some (.int x3), some (.int x4), some (.int x5), some (.int (f_26 y1 x5))]) (st1 := [.int (f_26 y1 x5), .ref 15, .int x4]) rfl ?_
        obtain ⟨hb5, h⟩ := h
        refine gk_W_c (i := .invokevirtual 62) [.int (f_56 w (f_26 y1 x5)), .int x4] 93 rfl rfl (c_v (a := 14) hS ly_14 rfl rfl (Nat.le_of_ble_eq_true rfl)) (f_56_E hS (f_26 y1 x5) hb5) rfl rfl ?_
        refine gk_W_s 5 (pc1 := 19) (l1 := [some (.ref 15), some (.long y1), none, some (.int x3), some (.int (x4 ||| (f_56 w (f_26 y1 x5)))), some (.int (x5 + (-1))), some (.int (f_26 y1 x5))]) (st1 := []) rfl ?_
        exact gk_W_le (gk_le_s (gk_le_s (gk_le_s (gk_le_s (gk_le_s (gk_le_s (gk_le_n (gk_le_0)))))))) h
    · have h := h.2 hp2
      refine gk_W_s 3 (pc1 := 45) (l1 := [some (.ref 15), some (.long y1), none, some (.int x3), some (.int x4), some (.int x5), some (.int (f_26 y1 x5))]) (st1 := [.ref 15, .int x4, .int x3]) rfl ?_
      refine gk_W_h (i := .getfield 15) 48 rfl rfl (h_gr (a := 14) (k := 1) (m := 17) hS ly_14 rfl) rfl ?_
      refine gk_W_s 1 (pc1 := 50) (l1 := [some (.ref 15), some (.long y1), none, some (.int x3), some (.int x4), some (.int x5), some (.int (f_26 y1 x5))]) (st1 := [.int (f_26 y1 x5), .ref 17, .int x4, .int x3]) rfl ?_
      obtain ⟨hb6, h⟩ := h
      refine gk_W_h (i := .iaload) 51 rfl rfl (h_al (a := 16) (scr := none) hS ly_16 hb6) rfl ?_
      refine gk_W_b 4 ((x4 &&& (((w_a w 16).getD (f_26 y1 x5).toNatClampNeg 0) ^^^ ((-1)))) = 0) (t := 61) (e := 57) (l1 := [some (.ref 15), some (.long y1), none, some (.int x3), some (.int x4), some (.int x5), some (.int (f_26 y1 x5))]) (st1 := [.int x3]) rfl (fun hp7 => ?_) (fun hp7 => ?_)
      · have h := h.1 hp7
        refine gk_W_s 4 (pc1 := 65) (l1 := [some (.ref 15), some (.long y1), none, some (.int (x3 ||| 0)), some (.int x4), some (.int x5), some (.int (f_26 y1 x5))]) (st1 := [.ref 15]) rfl ?_
        refine gk_W_h (i := .getfield 15) 68 rfl rfl (h_gr (a := 14) (k := 1) (m := 17) hS ly_14 rfl) rfl ?_
        refine gk_W_s 2 (pc1 := 71) (l1 := [some (.ref 15), some (.long y1), none, some (.int (x3 ||| 0)), some (.int x4), some (.int x5), some (.int (f_26 y1 x5))]) (st1 := [.int (f_26 y1 x5), .ref 17, .int (f_26 y1 x5), .ref 17]) rfl ?_
        obtain ⟨hb8, h⟩ := h
        refine gk_W_h (i := .iaload) 72 rfl rfl (h_al (a := 16) (scr := none) hS ly_16 hb8) rfl ?_
        refine gk_W_s 2 (pc1 := 75) (l1 := [some (.ref 15), some (.long y1), none, some (.int (x3 ||| 0)), some (.int x4), some (.int x5), some (.int (f_26 y1 x5))]) (st1 := [.int (((w_a w 16).getD (f_26 y1 x5).toNatClampNeg 0) ||| x4), .int (f_26 y1 x5), .ref 17]) rfl ?_
        obtain ⟨hb9, h⟩ := h
        refine gk_W_h (i := .iastore) 76 rfl rfl (h_as (a := 16) (t := 0) hS ly_16 hb9 rfl) rfl ?_
        refine gk_W_s 2 (pc1 := 79) (l1 := [some (.ref 15), some (.long y1), none, some (.int (x3 ||| 0)), some (.int x4), some (.int x5), some (.int (f_26 y1 x5))]) (st1 := [.int (f_26 y1 x5), .ref 15]) rfl ?_
        refine gk_W_c (i := .invokevirtual 66) [.int (f_57 (w_sa w 16 ((w_a w 16).set (f_26 y1 x5).toNatClampNeg (((w_a w 16).getD (f_26 y1 x5).toNatClampNeg 0) ||| x4))) (f_26 y1 x5))] 82 rfl rfl (c_v (a := 14) (sh_as hS ly_16 ((f_26 y1 x5).toNatClampNeg) (((w_a w 16).getD (f_26 y1 x5).toNatClampNeg 0) ||| x4)) ly_14 rfl rfl (Nat.le_of_ble_eq_true rfl)) (f_57_E (sh_as hS ly_16 ((f_26 y1 x5).toNatClampNeg) (((w_a w 16).getD (f_26 y1 x5).toNatClampNeg 0) ||| x4)) (f_26 y1 x5)) rfl rfl ?_
        refine gk_W_b 1 ((f_57 (w_sa w 16 ((w_a w 16).set (f_26 y1 x5).toNatClampNeg (((w_a w 16).getD (f_26 y1 x5).toNatClampNeg 0) ||| x4))) (f_26 y1 x5)) = 0) (t := 97) (e := 85) (l1 := [some (.ref 15), some (.long y1), none, some (.int (x3 ||| 0)), some (.int x4), some (.int x5), some (.int (f_26 y1 x5))]) (st1 := []) rfl (fun hp10 => ?_) (fun hp10 => ?_)
        · have h := h.1 hp10
          refine gk_W_s 2 (pc1 := 100) (l1 := [some (.ref 15), some (.long y1), none, some (.int (x3 ||| 0)), some (.int x4), some (.int x5), some (.int (f_26 y1 x5))]) (st1 := [.int (f_26 y1 x5), .ref 15]) rfl ?_
          obtain ⟨hb11, h⟩ := h
          refine gk_W_c (i := .invokevirtual 62) [.int (f_56 (w_sa w 16 ((w_a w 16).set (f_26 y1 x5).toNatClampNeg (((w_a w 16).getD (f_26 y1 x5).toNatClampNeg 0) ||| x4))) (f_26 y1 x5))] 103 rfl rfl (c_v (a := 14) (sh_as hS ly_16 ((f_26 y1 x5).toNatClampNeg) (((w_a w 16).getD (f_26 y1 x5).toNatClampNeg 0) ||| x4)) ly_14 rfl rfl (Nat.le_of_ble_eq_true rfl)) (f_56_E (sh_as hS ly_16 ((f_26 y1 x5).toNatClampNeg) (((w_a w 16).getD (f_26 y1 x5).toNatClampNeg 0) ||| x4)) (f_26 y1 x5) hb11) rfl rfl ?_
          refine gk_W_s 3 (pc1 := 19) (l1 := [some (.ref 15), some (.long y1), none, some (.int (x3 ||| 0)), some (.int (f_56 (w_sa w 16 ((w_a w 16).set (f_26 y1 x5).toNatClampNeg (((w_a w 16).getD (f_26 y1 x5).toNatClampNeg 0) ||| x4))) (f_26 y1 x5))), some (.int (x5 + (-1))), some (.int (f_26 y1 x5))]) (st1 := []) rfl ?_
          exact gk_W_le (gk_le_s (gk_le_s (gk_le_s (gk_le_s (gk_le_s (gk_le_s (gk_le_n (gk_le_0)))))))) h
        · have h := h.2 hp10
          refine gk_W_s 3 (pc1 := 90) (l1 := [some (.ref 15), some (.long y1), none, some (.int (x3 ||| 0)), some (.int x4), some (.int x5), some (.int (f_26 y1 x5))]) (st1 := [.int (f_26 y1 x5), .ref 15, .int x4]) rfl ?_
          obtain ⟨hb12, h⟩ := h
          refine gk_W_c (i := .invokevirtual 62) [.int (f_56 (w_sa w 16 ((w_a w 16).set (f_26 y1 x5).toNatClampNeg (((w_a w 16).getD (f_26 y1 x5).toNatClampNeg 0) ||| x4))) (f_26 y1 x5)), .int x4] 93 rfl rfl (c_v (a := 14) (sh_as hS ly_16 ((f_26 y1 x5).toNatClampNeg) (((w_a w 16).getD (f_26 y1 x5).toNatClampNeg 0) ||| x4)) ly_14 rfl rfl (Nat.le_of_ble_eq_true rfl)) (f_56_E (sh_as hS ly_16 ((f_26 y1 x5).toNatClampNeg) (((w_a w 16).getD (f_26 y1 x5).toNatClampNeg 0) ||| x4)) (f_26 y1 x5) hb12) rfl rfl ?_
          refine gk_W_s 5 (pc1 := 19) (l1 := [some (.ref 15), some (.long y1), none, some (.int (x3 ||| 0)), some (.int (x4 ||| (f_56 (w_sa w 16 ((w_a w 16).set (f_26 y1 x5).toNatClampNeg (((w_a w 16).getD (f_26 y1 x5).toNatClampNeg 0) ||| x4))) (f_26 y1 x5)))), some (.int (x5 + (-1))), some (.int (f_26 y1 x5))]) (st1 := []) rfl ?_
          exact gk_W_le (gk_le_s (gk_le_s (gk_le_s (gk_le_s (gk_le_s (gk_le_s (gk_le_n (gk_le_0)))))))) h
      · have h := h.2 hp7
        refine gk_W_s 5 (pc1 := 65) (l1 := [some (.ref 15), some (.long y1), none, some (.int (x3 ||| 1)), some (.int x4), some (.int x5), some (.int (f_26 y1 x5))]) (st1 := [.ref 15]) rfl ?_
        refine gk_W_h (i := .getfield 15) 68 rfl rfl (h_gr (a := 14) (k := 1) (m := 17) hS ly_14 rfl) rfl ?_
        refine gk_W_s 2 (pc1 := 71) (l1 := [some (.ref 15), some (.long y1), none, some (.int (x3 ||| 1)), some (.int x4), some (.int x5), some (.int (f_26 y1 x5))]) (st1 := [.int (f_26 y1 x5), .ref 17, .int (f_26 y1 x5), .ref 17]) rfl ?_
        obtain ⟨hb13, h⟩ := h
        refine gk_W_h (i := .iaload) 72 rfl rfl (h_al (a := 16) (scr := none) hS ly_16 hb13) rfl ?_
        refine gk_W_s 2 (pc1 := 75) (l1 := [some (.ref 15), some (.long y1), none, some (.int (x3 ||| 1)), some (.int x4), some (.int x5), some (.int (f_26 y1 x5))]) (st1 := [.int (((w_a w 16).getD (f_26 y1 x5).toNatClampNeg 0) ||| x4), .int (f_26 y1 x5), .ref 17]) rfl ?_
        obtain ⟨hb14, h⟩ := h
        refine gk_W_h (i := .iastore) 76 rfl rfl (h_as (a := 16) (t := 0) hS ly_16 hb14 rfl) rfl ?_
        refine gk_W_s 2 (pc1 := 79) (l1 := [some (.ref 15), some (.long y1), none, some (.int (x3 ||| 1)), some (.int x4), some (.int x5), some (.int (f_26 y1 x5))]) (st1 := [.int (f_26 y1 x5), .ref 15]) rfl ?_
        refine gk_W_c (i := .invokevirtual 66) [.int (f_57 (w_sa w 16 ((w_a w 16).set (f_26 y1 x5).toNatClampNeg (((w_a w 16).getD (f_26 y1 x5).toNatClampNeg 0) ||| x4))) (f_26 y1 x5))] 82 rfl rfl (c_v (a := 14) (sh_as hS ly_16 ((f_26 y1 x5).toNatClampNeg) (((w_a w 16).getD (f_26 y1 x5).toNatClampNeg 0) ||| x4)) ly_14 rfl rfl (Nat.le_of_ble_eq_true rfl)) (f_57_E (sh_as hS ly_16 ((f_26 y1 x5).toNatClampNeg) (((w_a w 16).getD (f_26 y1 x5).toNatClampNeg 0) ||| x4)) (f_26 y1 x5)) rfl rfl ?_
        refine gk_W_b 1 ((f_57 (w_sa w 16 ((w_a w 16).set (f_26 y1 x5).toNatClampNeg (((w_a w 16).getD (f_26 y1 x5).toNatClampNeg 0) ||| x4))) (f_26 y1 x5)) = 0) (t := 97) (e := 85) (l1 := [some (.ref 15), some (.long y1), none, some (.int (x3 ||| 1)), some (.int x4), some (.int x5), some (.int (f_26 y1 x5))]) (st1 := []) rfl (fun hp15 => ?_) (fun hp15 => ?_)
        · have h := h.1 hp15
          refine gk_W_s 2 (pc1 := 100) (l1 := [some (.ref 15), some (.long y1), none, some (.int (x3 ||| 1)), some (.int x4), some (.int x5), some (.int (f_26 y1 x5))]) (st1 := [.int (f_26 y1 x5), .ref 15]) rfl ?_
          obtain ⟨hb16, h⟩ := h
          refine gk_W_c (i := .invokevirtual 62) [.int (f_56 (w_sa w 16 ((w_a w 16).set (f_26 y1 x5).toNatClampNeg (((w_a w 16).getD (f_26 y1 x5).toNatClampNeg 0) ||| x4))) (f_26 y1 x5))] 103 rfl rfl (c_v (a := 14) (sh_as hS ly_16 ((f_26 y1 x5).toNatClampNeg) (((w_a w 16).getD (f_26 y1 x5).toNatClampNeg 0) ||| x4)) ly_14 rfl rfl (Nat.le_of_ble_eq_true rfl)) (f_56_E (sh_as hS ly_16 ((f_26 y1 x5).toNatClampNeg) (((w_a w 16).getD (f_26 y1 x5).toNatClampNeg 0) ||| x4)) (f_26 y1 x5) hb16) rfl rfl ?_
          refine gk_W_s 3 (pc1 := 19) (l1 := [some (.ref 15), some (.long y1), none, some (.int (x3 ||| 1)), some (.int (f_56 (w_sa w 16 ((w_a w 16).set (f_26 y1 x5).toNatClampNeg (((w_a w 16).getD (f_26 y1 x5).toNatClampNeg 0) ||| x4))) (f_26 y1 x5))), some (.int (x5 + (-1))), some (.int (f_26 y1 x5))]) (st1 := []) rfl ?_
          exact gk_W_le (gk_le_s (gk_le_s (gk_le_s (gk_le_s (gk_le_s (gk_le_s (gk_le_n (gk_le_0)))))))) h
        · have h := h.2 hp15
          refine gk_W_s 3 (pc1 := 90) (l1 := [some (.ref 15), some (.long y1), none, some (.int (x3 ||| 1)), some (.int x4), some (.int x5), some (.int (f_26 y1 x5))]) (st1 := [.int (f_26 y1 x5), .ref 15, .int x4]) rfl ?_
          obtain ⟨hb17, h⟩ := h
          refine gk_W_c (i := .invokevirtual 62) [.int (f_56 (w_sa w 16 ((w_a w 16).set (f_26 y1 x5).toNatClampNeg (((w_a w 16).getD (f_26 y1 x5).toNatClampNeg 0) ||| x4))) (f_26 y1 x5)), .int x4] 93 rfl rfl (c_v (a := 14) (sh_as hS ly_16 ((f_26 y1 x5).toNatClampNeg) (((w_a w 16).getD (f_26 y1 x5).toNatClampNeg 0) ||| x4)) ly_14 rfl rfl (Nat.le_of_ble_eq_true rfl)) (f_56_E (sh_as hS ly_16 ((f_26 y1 x5).toNatClampNeg) (((w_a w 16).getD (f_26 y1 x5).toNatClampNeg 0) ||| x4)) (f_26 y1 x5) hb17) rfl rfl ?_
          refine gk_W_s 5 (pc1 := 19) (l1 := [some (.ref 15), some (.long y1), none, some (.int (x3 ||| 1)), some (.int (x4 ||| (f_56 (w_sa w 16 ((w_a w 16).set (f_26 y1 x5).toNatClampNeg (((w_a w 16).getD (f_26 y1 x5).toNatClampNeg 0) ||| x4))) (f_26 y1 x5)))), some (.int (x5 + (-1))), some (.int (f_26 y1 x5))]) (st1 := []) rfl ?_
          exact gk_W_le (gk_le_s (gk_le_s (gk_le_s (gk_le_s (gk_le_s (gk_le_s (gk_le_n (gk_le_0)))))))) h
/-- GrammarDesk$Lookahead.choosesAlways(LGrammarDesk$RuleSet;)Z, at 0 -/
theorem sg_64_0 {d : Nat} {rr : List gk_S} {w w' : gk_Wd} {r : gk_Res} (hS : gk_Sh rr w) {a : Nat} (haa : gk_rs a)
    (h : gk_W none (d + 1) 64 2 [some (.ref 15), some (.ref (a + 1)), some (.int 0), none] [] w r w') :
    gk_W none (d + 1) 64 0 [some (.ref 15), some (.ref (a + 1)), none, none] [] w r w' := by
  refine gk_W_s 2 (pc1 := 2) (l1 := [some (.ref 15), some (.ref (a + 1)), some (.int 0), none]) (st1 := []) rfl ?_
  exact h
/-- GrammarDesk$Lookahead.choosesAlways(LGrammarDesk$RuleSet;)Z, at 2 -/
theorem sg_64_2 {d : Nat} {rr : List gk_S} {w w' : gk_Wd} {r : gk_Res} (hS : gk_Sh rr w) {a : Nat} (haa : gk_rs a) (x2 : Int32)
    (h : (((f_13 w a) ≤ x2 → (r = .inl (some (.int 1)) ∧ w' = w)) ∧ (¬ ((f_13 w a) ≤ x2) → gk_W none (d + 1) 64 14 [some (.ref 15), some (.ref (a + 1)), some (.int x2), some (.int (x2 + 1))] [] w r w'))) :
    gk_W none (d + 1) 64 2 [some (.ref 15), some (.ref (a + 1)), some (.int x2), none] [] w r w' := by
  refine gk_W_s 2 (pc1 := 4) (l1 := [some (.ref 15), some (.ref (a + 1)), some (.int x2), none]) (st1 := [.ref (a + 1), .int x2]) rfl ?_
  refine gk_W_c (i := .invokevirtual 38) [.int (f_13 w a), .int x2] 7 rfl rfl (c_v (a := a) hS haa.1 rfl rfl (Nat.le_of_ble_eq_true rfl)) (f_13_E hS ⟨haa.1, haa.2⟩) rfl rfl ?_
  refine gk_W_b 1 ((f_13 w a) ≤ x2) (t := 77) (e := 10) (l1 := [some (.ref 15), some (.ref (a + 1)), some (.int x2), none]) (st1 := []) rfl (fun hp1 => ?_) (fun hp1 => ?_)
  · have h := h.1 hp1
    refine gk_W_s 1 (pc1 := 78) (l1 := [some (.ref 15), some (.ref (a + 1)), some (.int x2), none]) (st1 := [.int 1]) rfl ?_
    obtain ⟨rfl, rfl⟩ := h
    exact gk_W_r (i := .ireturn) rfl rfl rfl
  · have h := h.2 hp1
    refine gk_W_s 4 (pc1 := 14) (l1 := [some (.ref 15), some (.ref (a + 1)), some (.int x2), some (.int (x2 + 1))]) (st1 := []) rfl ?_
    exact h
/-- GrammarDesk$Lookahead.choosesAlways(LGrammarDesk$RuleSet;)Z, at 14 -/
theorem sg_64_14 {d : Nat} {rr : List gk_S} {w w' : gk_Wd} {r : gk_Res} (hS : gk_Sh rr w) {a : Nat} (haa : gk_rs a) (x2 : Int32) (x3 : Int32)
    (h : (((f_13 w a) ≤ x3 → gk_W none (d + 1) 64 2 [some (.ref 15), some (.ref (a + 1)), some (.int (x2 + 1)), none] [] w r w') ∧ (¬ ((f_13 w a) ≤ x3) → ((gk_out x2 60 = false) ∧ ((gk_out x3 60 = false) ∧ ((¬ (f_25 (f_23 w a x2)) = (f_25 (f_23 w a x3)) → gk_W none (d + 1) 64 14 [some (.ref 15), some (.ref (a + 1)), some (.int x2), some (.int (x3 + 1))] [] w r w') ∧ ((f_25 (f_23 w a x2)) = (f_25 (f_23 w a x3)) → ((gk_out x2 60 = false) ∧ (∃ (v7 : Int32), gk_E d 65 [.ref 15, .long (f_23 w a x2)] w (.inl (some (.int v7))) w ∧ ((gk_out x3 60 = false) ∧ (∃ (v10 : Int32), gk_E d 65 [.ref 15, .long (f_23 w a x3)] w (.inl (some (.int v10))) w ∧ (((v7 &&& v10) = 0 → gk_W none (d + 1) 64 14 [some (.ref 15), some (.ref (a + 1)), some (.int x2), some (.int (x3 + 1))] [] w r w') ∧ (¬ ((v7 &&& v10) = 0) → (r = .inl (some (.int 0)) ∧ w' = w)))))))))))))) :
    gk_W none (d + 1) 64 14 [some (.ref 15), some (.ref (a + 1)), some (.int x2), some (.int x3)] [] w r w' := by
  refine gk_W_s 2 (pc1 := 16) (l1 := [some (.ref 15), some (.ref (a + 1)), some (.int x2), some (.int x3)]) (st1 := [.ref (a + 1), .int x3]) rfl ?_
  refine gk_W_c (i := .invokevirtual 38) [.int (f_13 w a), .int x3] 19 rfl rfl (c_v (a := a) hS haa.1 rfl rfl (Nat.le_of_ble_eq_true rfl)) (f_13_E hS ⟨haa.1, haa.2⟩) rfl rfl ?_
  refine gk_W_b 1 ((f_13 w a) ≤ x3) (t := 71) (e := 22) (l1 := [some (.ref 15), some (.ref (a + 1)), some (.int x2), some (.int x3)]) (st1 := []) rfl (fun hp1 => ?_) (fun hp1 => ?_)
  · have h := h.1 hp1
    refine gk_W_s 2 (pc1 := 2) (l1 := [some (.ref 15), some (.ref (a + 1)), some (.int (x2 + 1)), some (.int x3)]) (st1 := []) rfl ?_
    exact gk_W_le (gk_le_s (gk_le_s (gk_le_s (gk_le_n (gk_le_0))))) h
  · have h := h.2 hp1
    refine gk_W_s 2 (pc1 := 24) (l1 := [some (.ref 15), some (.ref (a + 1)), some (.int x2), some (.int x3)]) (st1 := [.int x2, .ref (a + 1)]) rfl ?_
    obtain ⟨hb2, h⟩ := h
    refine gk_W_c (i := .invokevirtual 44) [.long (f_23 w a x2)] 27 rfl rfl (c_v (a := a) hS haa.1 rfl rfl (Nat.le_of_ble_eq_true rfl)) (f_23_E hS ⟨haa.1, haa.2⟩ x2 hb2) rfl rfl ?_
    refine gk_W_c (i := .invokestatic 48) [.int (f_25 (f_23 w a x2))] 30 rfl rfl rfl (f_25_E (f_23 w a x2)) rfl rfl ?_
    refine gk_W_s 2 (pc1 := 32) (l1 := [some (.ref 15), some (.ref (a + 1)), some (.int x2), some (.int x3)]) (st1 := [.int x3, .ref (a + 1), .int (f_25 (f_23 w a x2))]) rfl ?_
    obtain ⟨hb3, h⟩ := h
    refine gk_W_c (i := .invokevirtual 44) [.long (f_23 w a x3), .int (f_25 (f_23 w a x2))] 35 rfl rfl (c_v (a := a) hS haa.1 rfl rfl (Nat.le_of_ble_eq_true rfl)) (f_23_E hS ⟨haa.1, haa.2⟩ x3 hb3) rfl rfl ?_
    refine gk_W_c (i := .invokestatic 48) [.int (f_25 (f_23 w a x3)), .int (f_25 (f_23 w a x2))] 38 rfl rfl rfl (f_25_E (f_23 w a x3)) rfl rfl ?_
    refine gk_W_b 1 (¬ (f_25 (f_23 w a x2)) = (f_25 (f_23 w a x3))) (t := 65) (e := 41) (l1 := [some (.ref 15), some (.ref (a + 1)), some (.int x2), some (.int x3)]) (st1 := []) rfl (fun hp4 => ?_) (fun hp4 => ?_)
    · have h := h.1 hp4
      refine gk_W_s 2 (pc1 := 14) (l1 := [some (.ref 15), some (.ref (a + 1)), some (.int x2), some (.int (x3 + 1))]) (st1 := []) rfl ?_
      exact h
    · have h := h.2 (Decidable.not_not.mp hp4)
      refine gk_W_s 3 (pc1 := 44) (l1 := [some (.ref 15), some (.ref (a + 1)), some (.int x2), some (.int x3)]) (st1 := [.int x2, .ref (a + 1), .ref 15]) rfl ?_
      obtain ⟨hb5, h⟩ := h
      refine gk_W_c (i := .invokevirtual 44) [.long (f_23 w a x2), .ref 15] 47 rfl rfl (c_v (a := a) hS haa.1 rfl rfl (Nat.le_of_ble_eq_true rfl)) (f_23_E hS ⟨haa.1, haa.2⟩ x2 hb5) rfl rfl ?_
      obtain ⟨v7, hE6, h⟩ := h
      refine gk_W_c (i := .invokevirtual 77) [.int v7] 50 rfl rfl (c_v (a := 14) hS ly_14 rfl rfl (Nat.le_of_ble_eq_true rfl)) hE6 rfl rfl ?_
      refine gk_W_s 3 (pc1 := 53) (l1 := [some (.ref 15), some (.ref (a + 1)), some (.int x2), some (.int x3)]) (st1 := [.int x3, .ref (a + 1), .ref 15, .int v7]) rfl ?_
      obtain ⟨hb8, h⟩ := h
      refine gk_W_c (i := .invokevirtual 44) [.long (f_23 w a x3), .ref 15, .int v7] 56 rfl rfl (c_v (a := a) hS haa.1 rfl rfl (Nat.le_of_ble_eq_true rfl)) (f_23_E hS ⟨haa.1, haa.2⟩ x3 hb8) rfl rfl ?_
      obtain ⟨v10, hE9, h⟩ := h
      refine gk_W_c (i := .invokevirtual 77) [.int v10, .int v7] 59 rfl rfl (c_v (a := 14) hS ly_14 rfl rfl (Nat.le_of_ble_eq_true rfl)) hE9 rfl rfl ?_
      refine gk_W_b 2 ((v7 &&& v10) = 0) (t := 65) (e := 63) (l1 := [some (.ref 15), some (.ref (a + 1)), some (.int x2), some (.int x3)]) (st1 := []) rfl (fun hp11 => ?_) (fun hp11 => ?_)
      · have h := h.1 hp11
        refine gk_W_s 2 (pc1 := 14) (l1 := [some (.ref 15), some (.ref (a + 1)), some (.int x2), some (.int (x3 + 1))]) (st1 := []) rfl ?_
        exact h
      · have h := h.2 hp11
        refine gk_W_s 1 (pc1 := 64) (l1 := [some (.ref 15), some (.ref (a + 1)), some (.int x2), some (.int x3)]) (st1 := [.int 0]) rfl ?_
        obtain ⟨rfl, rfl⟩ := h
        exact gk_W_r (i := .ireturn) rfl rfl rfl
/-- GrammarDesk$Lookahead.chosenBy(J)I, at 0 -/
theorem sg_65_0 {d : Nat} {rr : List gk_S} {w w' : gk_Wd} {r : gk_Res} (hS : gk_Sh rr w) (y1 : Int64)
    (h : (∃ (v2 : Int32), gk_E d 34 [.long y1] w (.inl (some (.int v2))) w ∧ ((¬ v2 = 0 → (∃ (v5 : Int32), gk_E d 55 [.ref 15, .long y1] w (.inl (some (.int v5))) w ∧ (r = .inl (some (.int (v5 ||| 0))) ∧ w' = w))) ∧ (v2 = 0 → (∃ (v7 : Int32), gk_E d 33 [.long y1] w (.inl (some (.int v7))) w ∧ ((¬ (v7 &&& ((w_i w 14 2) ^^^ ((-1)))) = 0 → (∃ (v10 : Int32), gk_E d 55 [.ref 15, .long y1] w (.inl (some (.int v10))) w ∧ (r = .inl (some (.int (v10 ||| 0))) ∧ w' = w))) ∧ ((v7 &&& ((w_i w 14 2) ^^^ ((-1)))) = 0 → (∃ (v12 : Int32), gk_E d 55 [.ref 15, .long y1] w (.inl (some (.int v12))) w ∧ (gk_out (f_25 y1) 16 = false ∧ (r = .inl (some (.int (v12 ||| ((w_a w 16).getD (f_25 y1).toNatClampNeg 0)))) ∧ w' = w)))))))))) :
    gk_W none (d + 1) 65 0 [some (.ref 15), some (.long y1), none, none] [] w r w' := by
  refine gk_W_s 1 (pc1 := 1) (l1 := [some (.ref 15), some (.long y1), none, none]) (st1 := [.long y1]) rfl ?_
  obtain ⟨v2, hE1, h⟩ := h
  refine gk_W_c (i := .invokestatic 80) [.int v2] 4 rfl rfl rfl hE1 rfl rfl ?_
  refine gk_W_b 1 (¬ v2 = 0) (t := 25) (e := 7) (l1 := [some (.ref 15), some (.long y1), none, none]) (st1 := []) rfl (fun hp3 => ?_) (fun hp3 => ?_)
  · have h := h.1 hp3
    refine gk_W_s 4 (pc1 := 29) (l1 := [some (.ref 15), some (.long y1), none, some (.int 0)]) (st1 := [.long y1, .ref 15]) rfl ?_
    obtain ⟨v5, hE4, h⟩ := h
    refine gk_W_c (i := .invokevirtual 52) [.int v5] 32 rfl rfl (c_v (a := 14) hS ly_14 rfl rfl (Nat.le_of_ble_eq_true rfl)) hE4 rfl rfl ?_
    refine gk_W_s 4 (pc1 := 50) (l1 := [some (.ref 15), some (.long y1), none, some (.int 0)]) (st1 := [.int (v5 ||| 0)]) rfl ?_
    obtain ⟨rfl, rfl⟩ := h
    exact gk_W_r (i := .ireturn) rfl rfl rfl
  · have h := h.2 (Decidable.not_not.mp hp3)
    refine gk_W_s 1 (pc1 := 8) (l1 := [some (.ref 15), some (.long y1), none, none]) (st1 := [.long y1]) rfl ?_
    obtain ⟨v7, hE6, h⟩ := h
    refine gk_W_c (i := .invokestatic 83) [.int v7] 11 rfl rfl rfl hE6 rfl rfl ?_
    refine gk_W_s 1 (pc1 := 12) (l1 := [some (.ref 15), some (.long y1), none, none]) (st1 := [.ref 15, .int v7]) rfl ?_
    refine gk_W_h (i := .getfield 18) 15 rfl rfl (h_gi (a := 14) (k := 2) hS ly_14 rfl) rfl ?_
    refine gk_W_b 4 (¬ (v7 &&& ((w_i w 14 2) ^^^ ((-1)))) = 0) (t := 25) (e := 21) (l1 := [some (.ref 15), some (.long y1), none, none]) (st1 := []) rfl (fun hp8 => ?_) (fun hp8 => ?_)
    · have h := h.1 hp8
      refine gk_W_s 4 (pc1 := 29) (l1 := [some (.ref 15), some (.long y1), none, some (.int 0)]) (st1 := [.long y1, .ref 15]) rfl ?_
      obtain ⟨v10, hE9, h⟩ := h
      refine gk_W_c (i := .invokevirtual 52) [.int v10] 32 rfl rfl (c_v (a := 14) hS ly_14 rfl rfl (Nat.le_of_ble_eq_true rfl)) hE9 rfl rfl ?_
      refine gk_W_s 4 (pc1 := 50) (l1 := [some (.ref 15), some (.long y1), none, some (.int 0)]) (st1 := [.int (v10 ||| 0)]) rfl ?_
      obtain ⟨rfl, rfl⟩ := h
      exact gk_W_r (i := .ireturn) rfl rfl rfl
    · have h := h.2 (Decidable.not_not.mp hp8)
      refine gk_W_s 5 (pc1 := 29) (l1 := [some (.ref 15), some (.long y1), none, some (.int 1)]) (st1 := [.long y1, .ref 15]) rfl ?_
      obtain ⟨v12, hE11, h⟩ := h
      refine gk_W_c (i := .invokevirtual 52) [.int v12] 32 rfl rfl (c_v (a := 14) hS ly_14 rfl rfl (Nat.le_of_ble_eq_true rfl)) hE11 rfl rfl ?_
      refine gk_W_s 3 (pc1 := 37) (l1 := [some (.ref 15), some (.long y1), none, some (.int 1)]) (st1 := [.ref 15, .int v12]) rfl ?_
      refine gk_W_h (i := .getfield 15) 40 rfl rfl (h_gr (a := 14) (k := 1) (m := 17) hS ly_14 rfl) rfl ?_
      refine gk_W_s 1 (pc1 := 41) (l1 := [some (.ref 15), some (.long y1), none, some (.int 1)]) (st1 := [.long y1, .ref 17, .int v12]) rfl ?_
      refine gk_W_c (i := .invokestatic 48) [.int (f_25 y1), .ref 17, .int v12] 44 rfl rfl rfl (f_25_E y1) rfl rfl ?_
      obtain ⟨hb13, h⟩ := h
      refine gk_W_h (i := .iaload) 45 rfl rfl (h_al (a := 16) (scr := none) hS ly_16 hb13) rfl ?_
      refine gk_W_s 2 (pc1 := 50) (l1 := [some (.ref 15), some (.long y1), none, some (.int 1)]) (st1 := [.int (v12 ||| ((w_a w 16).getD (f_25 y1).toNatClampNeg 0))]) rfl ?_
      obtain ⟨rfl, rfl⟩ := h
      exact gk_W_r (i := .ireturn) rfl rfl rfl
/-- GrammarDesk$GreibachMaker.make(LGrammarDesk$RuleSet;)Z, at 0 -/
theorem sg_108_0 {d : Nat} {rr : List gk_S} {w w' : gk_Wd} {r : gk_Res} (hS : gk_Sh rr w) {a : Nat} (haa : gk_rs a)
    (h : (∃ (v2 : Int32), ∃ (w3 : gk_Wd), gk_E d 97 [.ref 8, .ref (a + 1)] (w_si w 11 2 0) (.inl (some (.int v2))) w3 ∧ gk_Sh rr w3 ∧ ((v2 = 0 → (r = .inl (some (.int 0)) ∧ w' = w3)) ∧ (¬ (v2 = 0) → (∃ (v7 : Int32), ∃ (w8 : gk_Wd), gk_E d 102 [.ref 8, .ref (a + 1)] w3 (.inl (some (.int v7))) w8 ∧ gk_Sh rr w8 ∧ ((¬ v7 = 0 → (∃ (v12 : Int32), ∃ (w13 : gk_Wd), gk_E d 30 [.ref 8, .ref (a + 1)] w8 (.inl (some (.int v12))) w13 ∧ gk_Sh rr w13 ∧ (∃ (v16 : Int32), gk_E d 109 [.ref (a + 1)] w13 (.inl (some (.int v16))) w13 ∧ gk_W none (d + 1) 108 45 [some (.ref 12), some (.ref (a + 1)), some (.int v16), some (.int 0)] [] w13 r w'))) ∧ (v7 = 0 → (r = .inl (some (.int 0)) ∧ w' = w8)))))))) :
    gk_W none (d + 1) 108 0 [some (.ref 12), some (.ref (a + 1)), none, none] [] w r w' := by
  refine gk_W_s 2 (pc1 := 2) (l1 := [some (.ref 12), some (.ref (a + 1)), none, none]) (st1 := [.int 0, .ref 12]) rfl ?_
  refine gk_W_h (i := .putfield 22) 5 rfl rfl (h_pi (a := 11) (k := 2) (x := 0) hS ly_11 rfl rfl) rfl ?_
  refine gk_W_s 1 (pc1 := 6) (l1 := [some (.ref 12), some (.ref (a + 1)), none, none]) (st1 := [.ref 12]) rfl ?_
  refine gk_W_h (i := .getfield 9) 9 rfl rfl (h_gr (a := 11) (k := 0) (m := 8) (sh_si hS ly_11 (k := 2) rfl 0) ly_11 rfl) rfl ?_
  refine gk_W_s 1 (pc1 := 10) (l1 := [some (.ref 12), some (.ref (a + 1)), none, none]) (st1 := [.ref (a + 1), .ref 8]) rfl ?_
  obtain ⟨v2, w3, hE1, hS4, h⟩ := h
  refine gk_W_c (i := .invokevirtual 26) [.int v2] 13 rfl rfl (c_v (a := 7) (sh_si hS ly_11 (k := 2) rfl 0) ly_7 rfl rfl (Nat.le_of_ble_eq_true rfl)) hE1 rfl rfl ?_
  refine gk_W_b 1 (v2 = 0) (t := 27) (e := 16) (l1 := [some (.ref 12), some (.ref (a + 1)), none, none]) (st1 := []) rfl (fun hp5 => ?_) (fun hp5 => ?_)
  · have h := h.1 hp5
    refine gk_W_s 1 (pc1 := 28) (l1 := [some (.ref 12), some (.ref (a + 1)), none, none]) (st1 := [.int 0]) rfl ?_
    obtain ⟨rfl, rfl⟩ := h
    exact gk_W_r (i := .ireturn) rfl rfl rfl
  · have h := h.2 hp5
    refine gk_W_s 1 (pc1 := 17) (l1 := [some (.ref 12), some (.ref (a + 1)), none, none]) (st1 := [.ref 12]) rfl ?_
    refine gk_W_h (i := .getfield 9) 20 rfl rfl (h_gr (a := 11) (k := 0) (m := 8) hS4 ly_11 rfl) rfl ?_
    refine gk_W_s 1 (pc1 := 21) (l1 := [some (.ref 12), some (.ref (a + 1)), none, none]) (st1 := [.ref (a + 1), .ref 8]) rfl ?_
    obtain ⟨v7, w8, hE6, hS9, h⟩ := h
    refine gk_W_c (i := .invokevirtual 32) [.int v7] 24 rfl rfl (c_v (a := 7) hS4 ly_7 rfl rfl (Nat.le_of_ble_eq_true rfl)) hE6 rfl rfl ?_
    refine gk_W_b 1 (¬ v7 = 0) (t := 29) (e := 27) (l1 := [some (.ref 12), some (.ref (a + 1)), none, none]) (st1 := []) rfl (fun hp10 => ?_) (fun hp10 => ?_)
    · have h := h.1 hp10
      refine gk_W_s 1 (pc1 := 30) (l1 := [some (.ref 12), some (.ref (a + 1)), none, none]) (st1 := [.ref 12]) rfl ?_
      refine gk_W_h (i := .getfield 9) 33 rfl rfl (h_gr (a := 11) (k := 0) (m := 8) hS9 ly_11 rfl) rfl ?_
      refine gk_W_s 1 (pc1 := 34) (l1 := [some (.ref 12), some (.ref (a + 1)), none, none]) (st1 := [.ref (a + 1), .ref 8]) rfl ?_
      obtain ⟨v12, w13, hE11, hS14, h⟩ := h
      refine gk_W_c (i := .invokevirtual 35) [.int v12] 37 rfl rfl (c_v (a := 7) hS9 ly_7 rfl rfl (Nat.le_of_ble_eq_true rfl)) hE11 rfl rfl ?_
      refine gk_W_s 2 (pc1 := 39) (l1 := [some (.ref 12), some (.ref (a + 1)), none, none]) (st1 := [.ref (a + 1)]) rfl ?_
      obtain ⟨v16, hE15, h⟩ := h
      refine gk_W_c (i := .invokevirtual 39) [.int v16] 42 rfl rfl (c_v (a := a) hS14 haa.1 rfl rfl (Nat.le_of_ble_eq_true rfl)) hE15 rfl rfl ?_
      refine gk_W_s 3 (pc1 := 45) (l1 := [some (.ref 12), some (.ref (a + 1)), some (.int v16), some (.int 0)]) (st1 := []) rfl ?_
      exact h
    · have h := h.2 (Decidable.not_not.mp hp10)
      refine gk_W_s 1 (pc1 := 28) (l1 := [some (.ref 12), some (.ref (a + 1)), none, none]) (st1 := [.int 0]) rfl ?_
      obtain ⟨rfl, rfl⟩ := h
      exact gk_W_r (i := .ireturn) rfl rfl rfl
/-- GrammarDesk$GreibachMaker.make(LGrammarDesk$RuleSet;)Z, at 45 -/
theorem sg_108_45 {d : Nat} {rr : List gk_S} {w w' : gk_Wd} {r : gk_Res} (hS : gk_Sh rr w) {a : Nat} (haa : gk_rs a) (x2 : Int32) (x3 : Int32)
    (h : ((16 ≤ x3 → (∃ (v3 : Int32), ∃ (w4 : gk_Wd), gk_E d 120 [.ref 12, .ref (a + 1), .int x2] w (.inl (some (.int v3))) w4 ∧ gk_Sh rr w4 ∧ ((v3 = 0 → (r = .inl (some (.int 0)) ∧ w' = w4)) ∧ (¬ (v3 = 0) → (∃ (v8 : Int32), ∃ (w9 : gk_Wd), gk_E d 122 [.ref 12, .ref (a + 1)] w4 (.inl (some (.int v8))) w9 ∧ gk_Sh rr w9 ∧ ((v8 = 0 → (r = .inl (some (.int 0)) ∧ w' = w9)) ∧ (¬ (v8 = 0) → (r = .inl (some (.int 1)) ∧ w' = w9)))))))) ∧ (¬ (16 ≤ x3) → (((f_36 x2 x3) = 0 → gk_W none (d + 1) 108 45 [some (.ref 12), some (.ref (a + 1)), some (.int x2), some (.int (x3 + 1))] [] w r w') ∧ (¬ ((f_36 x2 x3) = 0) → (∃ (v14 : Int32), ∃ (w15 : gk_Wd), gk_E d 110 [.ref 12, .ref (a + 1), .int x3] w (.inl (some (.int v14))) w15 ∧ gk_Sh rr w15 ∧ ((v14 = 0 → (r = .inl (some (.int 0)) ∧ w' = w15)) ∧ (¬ (v14 = 0) → (∃ (v19 : Int32), ∃ (w20 : gk_Wd), gk_E d 114 [.ref 12, .ref (a + 1), .int x3] w15 (.inl (some (.int v19))) w20 ∧ gk_Sh rr w20 ∧ ((¬ v19 = 0 → gk_W none (d + 1) 108 45 [some (.ref 12), some (.ref (a + 1)), some (.int x2), some (.int (x3 + 1))] [] w20 r w') ∧ (v19 = 0 → (r = .inl (some (.int 0)) ∧ w' = w20)))))))))))) :
    gk_W none (d + 1) 108 45 [some (.ref 12), some (.ref (a + 1)), some (.int x2), some (.int x3)] [] w r w' := by
  refine gk_W_b 3 (16 ≤ x3) (t := 85) (e := 51) (l1 := [some (.ref 12), some (.ref (a + 1)), some (.int x2), some (.int x3)]) (st1 := []) rfl (fun hp1 => ?_) (fun hp1 => ?_)
  · have h := h.1 hp1
    refine gk_W_s 3 (pc1 := 88) (l1 := [some (.ref 12), some (.ref (a + 1)), some (.int x2), some (.int x3)]) (st1 := [.int x2, .ref (a + 1), .ref 12]) rfl ?_
    obtain ⟨v3, w4, hE2, hS5, h⟩ := h
    refine gk_W_c (i := .invokevirtual 56) [.int v3] 91 rfl rfl (c_v (a := 11) hS ly_11 rfl rfl (Nat.le_of_ble_eq_true rfl)) hE2 rfl rfl ?_
    refine gk_W_b 1 (v3 = 0) (t := 106) (e := 94) (l1 := [some (.ref 12), some (.ref (a + 1)), some (.int x2), some (.int x3)]) (st1 := []) rfl (fun hp6 => ?_) (fun hp6 => ?_)
    · have h := h.1 hp6
      refine gk_W_s 1 (pc1 := 107) (l1 := [some (.ref 12), some (.ref (a + 1)), some (.int x2), some (.int x3)]) (st1 := [.int 0]) rfl ?_
      obtain ⟨rfl, rfl⟩ := h
      exact gk_W_r (i := .ireturn) rfl rfl rfl
    · have h := h.2 hp6
      refine gk_W_s 2 (pc1 := 96) (l1 := [some (.ref 12), some (.ref (a + 1)), some (.int x2), some (.int x3)]) (st1 := [.ref (a + 1), .ref 12]) rfl ?_
      obtain ⟨v8, w9, hE7, hS10, h⟩ := h
      refine gk_W_c (i := .invokevirtual 59) [.int v8] 99 rfl rfl (c_v (a := 11) hS5 ly_11 rfl rfl (Nat.le_of_ble_eq_true rfl)) hE7 rfl rfl ?_
      refine gk_W_b 1 (v8 = 0) (t := 106) (e := 102) (l1 := [some (.ref 12), some (.ref (a + 1)), some (.int x2), some (.int x3)]) (st1 := []) rfl (fun hp11 => ?_) (fun hp11 => ?_)
      · have h := h.1 hp11
        refine gk_W_s 1 (pc1 := 107) (l1 := [some (.ref 12), some (.ref (a + 1)), some (.int x2), some (.int x3)]) (st1 := [.int 0]) rfl ?_
        obtain ⟨rfl, rfl⟩ := h
        exact gk_W_r (i := .ireturn) rfl rfl rfl
      · have h := h.2 hp11
        refine gk_W_s 2 (pc1 := 107) (l1 := [some (.ref 12), some (.ref (a + 1)), some (.int x2), some (.int x3)]) (st1 := [.int 1]) rfl ?_
        obtain ⟨rfl, rfl⟩ := h
        exact gk_W_r (i := .ireturn) rfl rfl rfl
  · have h := h.2 hp1
    refine gk_W_s 2 (pc1 := 53) (l1 := [some (.ref 12), some (.ref (a + 1)), some (.int x2), some (.int x3)]) (st1 := [.int x3, .int x2]) rfl ?_
    refine gk_W_c (i := .invokestatic 45) [.int (f_36 x2 x3)] 56 rfl rfl rfl (f_36_E x2 x3) rfl rfl ?_
    refine gk_W_b 1 ((f_36 x2 x3) = 0) (t := 79) (e := 59) (l1 := [some (.ref 12), some (.ref (a + 1)), some (.int x2), some (.int x3)]) (st1 := []) rfl (fun hp12 => ?_) (fun hp12 => ?_)
    · have h := h.1 hp12
      refine gk_W_s 2 (pc1 := 45) (l1 := [some (.ref 12), some (.ref (a + 1)), some (.int x2), some (.int (x3 + 1))]) (st1 := []) rfl ?_
      exact h
    · have h := h.2 hp12
      refine gk_W_s 3 (pc1 := 62) (l1 := [some (.ref 12), some (.ref (a + 1)), some (.int x2), some (.int x3)]) (st1 := [.int x3, .ref (a + 1), .ref 12]) rfl ?_
      obtain ⟨v14, w15, hE13, hS16, h⟩ := h
      refine gk_W_c (i := .invokevirtual 49) [.int v14] 65 rfl rfl (c_v (a := 11) hS ly_11 rfl rfl (Nat.le_of_ble_eq_true rfl)) hE13 rfl rfl ?_
      refine gk_W_b 1 (v14 = 0) (t := 77) (e := 68) (l1 := [some (.ref 12), some (.ref (a + 1)), some (.int x2), some (.int x3)]) (st1 := []) rfl (fun hp17 => ?_) (fun hp17 => ?_)
      · have h := h.1 hp17
        refine gk_W_s 1 (pc1 := 78) (l1 := [some (.ref 12), some (.ref (a + 1)), some (.int x2), some (.int x3)]) (st1 := [.int 0]) rfl ?_
        obtain ⟨rfl, rfl⟩ := h
        exact gk_W_r (i := .ireturn) rfl rfl rfl
      · have h := h.2 hp17
        refine gk_W_s 3 (pc1 := 71) (l1 := [some (.ref 12), some (.ref (a + 1)), some (.int x2), some (.int x3)]) (st1 := [.int x3, .ref (a + 1), .ref 12]) rfl ?_
        obtain ⟨v19, w20, hE18, hS21, h⟩ := h
        refine gk_W_c (i := .invokevirtual 53) [.int v19] 74 rfl rfl (c_v (a := 11) hS16 ly_11 rfl rfl (Nat.le_of_ble_eq_true rfl)) hE18 rfl rfl ?_
        refine gk_W_b 1 (¬ v19 = 0) (t := 79) (e := 77) (l1 := [some (.ref 12), some (.ref (a + 1)), some (.int x2), some (.int x3)]) (st1 := []) rfl (fun hp22 => ?_) (fun hp22 => ?_)
        · have h := h.1 hp22
          refine gk_W_s 2 (pc1 := 45) (l1 := [some (.ref 12), some (.ref (a + 1)), some (.int x2), some (.int (x3 + 1))]) (st1 := []) rfl ?_
          exact h
        · have h := h.2 (Decidable.not_not.mp hp22)
          refine gk_W_s 1 (pc1 := 78) (l1 := [some (.ref 12), some (.ref (a + 1)), some (.int x2), some (.int x3)]) (st1 := [.int 0]) rfl ?_
          obtain ⟨rfl, rfl⟩ := h
          exact gk_W_r (i := .ireturn) rfl rfl rfl
/-- GrammarDesk$GreibachMaker.replaceEarlierLeads(LGrammarDesk$RuleSet;I)Z, at 0 -/
theorem sg_110_0 {d : Nat} {rr : List gk_S} {w w' : gk_Wd} {r : gk_Res} (hS : gk_Sh rr w) {a : Nat} (haa : gk_rs a) (x2 : Int32)
    (h : gk_W none (d + 1) 110 2 [some (.ref 12), some (.ref (a + 1)), some (.int x2), some (.int 0), none] [] w r w') :
    gk_W none (d + 1) 110 0 [some (.ref 12), some (.ref (a + 1)), some (.int x2), none, none] [] w r w' := by
  refine gk_W_s 2 (pc1 := 2) (l1 := [some (.ref 12), some (.ref (a + 1)), some (.int x2), some (.int 0), none]) (st1 := []) rfl ?_
  exact h
/-- GrammarDesk$GreibachMaker.replaceEarlierLeads(LGrammarDesk$RuleSet;I)Z, at 2 -/
theorem sg_110_2 {d : Nat} {rr : List gk_S} {w w' : gk_Wd} {r : gk_Res} (hS : gk_Sh rr w) {a : Nat} (haa : gk_rs a) (x2 : Int32) (x3 : Int32)
    (h : ((300 < x3 → (r = .inl (some (.int 0)) ∧ w' = w)) ∧ (¬ (300 < x3) → (∃ (v3 : Int32), gk_E d 111 [.ref (a + 1), .int x2] w (.inl (some (.int v3))) w ∧ ((¬ v3 = ((-1)) → (∃ (v6 : Int32), ∃ (w7 : gk_Wd), gk_E d 112 [.ref 12, .ref (a + 1), .int v3] w (.inl (some (.int v6))) w7 ∧ gk_Sh rr w7 ∧ ((¬ v6 = 0 → gk_W none (d + 1) 110 2 [some (.ref 12), some (.ref (a + 1)), some (.int x2), some (.int (x3 + 1)), none] [] w7 r w') ∧ (v6 = 0 → (r = .inl (some (.int 0)) ∧ w' = w7))))) ∧ (v3 = ((-1)) → (r = .inl (some (.int 1)) ∧ w' = w))))))) :
    gk_W none (d + 1) 110 2 [some (.ref 12), some (.ref (a + 1)), some (.int x2), some (.int x3), none] [] w r w' := by
  refine gk_W_b 3 (300 < x3) (t := 42) (e := 9) (l1 := [some (.ref 12), some (.ref (a + 1)), some (.int x2), some (.int x3), none]) (st1 := []) rfl (fun hp1 => ?_) (fun hp1 => ?_)
  · have h := h.1 hp1
    refine gk_W_s 1 (pc1 := 43) (l1 := [some (.ref 12), some (.ref (a + 1)), some (.int x2), some (.int x3), none]) (st1 := [.int 0]) rfl ?_
    obtain ⟨rfl, rfl⟩ := h
    exact gk_W_r (i := .ireturn) rfl rfl rfl
  · have h := h.2 hp1
    refine gk_W_s 2 (pc1 := 11) (l1 := [some (.ref 12), some (.ref (a + 1)), some (.int x2), some (.int x3), none]) (st1 := [.int x2, .ref (a + 1)]) rfl ?_
    obtain ⟨v3, hE2, h⟩ := h
    refine gk_W_c (i := .invokestatic 62) [.int v3] 14 rfl rfl rfl hE2 rfl rfl ?_
    refine gk_W_b 4 (¬ v3 = ((-1))) (t := 24) (e := 22) (l1 := [some (.ref 12), some (.ref (a + 1)), some (.int x2), some (.int x3), some (.int v3)]) (st1 := []) rfl (fun hp4 => ?_) (fun hp4 => ?_)
    · have h := h.1 hp4
      refine gk_W_s 3 (pc1 := 28) (l1 := [some (.ref 12), some (.ref (a + 1)), some (.int x2), some (.int x3), some (.int v3)]) (st1 := [.int v3, .ref (a + 1), .ref 12]) rfl ?_
      obtain ⟨v6, w7, hE5, hS8, h⟩ := h
      refine gk_W_c (i := .invokevirtual 66) [.int v6] 31 rfl rfl (c_v (a := 11) hS ly_11 rfl rfl (Nat.le_of_ble_eq_true rfl)) hE5 rfl rfl ?_
      refine gk_W_b 1 (¬ v6 = 0) (t := 36) (e := 34) (l1 := [some (.ref 12), some (.ref (a + 1)), some (.int x2), some (.int x3), some (.int v3)]) (st1 := []) rfl (fun hp9 => ?_) (fun hp9 => ?_)
      · have h := h.1 hp9
        refine gk_W_s 2 (pc1 := 2) (l1 := [some (.ref 12), some (.ref (a + 1)), some (.int x2), some (.int (x3 + 1)), some (.int v3)]) (st1 := []) rfl ?_
        exact gk_W_le (gk_le_s (gk_le_s (gk_le_s (gk_le_s (gk_le_n (gk_le_0)))))) h
      · have h := h.2 (Decidable.not_not.mp hp9)
        refine gk_W_s 1 (pc1 := 35) (l1 := [some (.ref 12), some (.ref (a + 1)), some (.int x2), some (.int x3), some (.int v3)]) (st1 := [.int 0]) rfl ?_
        obtain ⟨rfl, rfl⟩ := h
        exact gk_W_r (i := .ireturn) rfl rfl rfl
    · have h := h.2 (Decidable.not_not.mp hp4)
      refine gk_W_s 1 (pc1 := 23) (l1 := [some (.ref 12), some (.ref (a + 1)), some (.int x2), some (.int x3), some (.int v3)]) (st1 := [.int 1]) rfl ?_
      obtain ⟨rfl, rfl⟩ := h
      exact gk_W_r (i := .ireturn) rfl rfl rfl
/-- GrammarDesk$GreibachMaker.withEarlierLead(LGrammarDesk$RuleSet;I)I, at 0 -/
theorem sg_111_0 {d : Nat} {rr : List gk_S} {w w' : gk_Wd} {r : gk_Res} (hS : gk_Sh rr w) {a : Nat} (haa : gk_rs a) (x1 : Int32)
    (h : gk_W none (d + 1) 111 2 [some (.ref (a + 1)), some (.int x1), some (.int 0), none, none] [] w r w') :
    gk_W none (d + 1) 111 0 [some (.ref (a + 1)), some (.int x1), none, none, none] [] w r w' := by
  refine gk_W_s 2 (pc1 := 2) (l1 := [some (.ref (a + 1)), some (.int x1), some (.int 0), none, none]) (st1 := []) rfl ?_
  exact h
/-- GrammarDesk$GreibachMaker.withEarlierLead(LGrammarDesk$RuleSet;I)I, at 2 -/
theorem sg_111_2 {d : Nat} {rr : List gk_S} {w w' : gk_Wd} {r : gk_Res} (hS : gk_Sh rr w) {a : Nat} (haa : gk_rs a) (x1 : Int32) (x2 : Int32)
    (h : (((f_13 w a) ≤ x2 → (r = .inl (some (.int ((-1)))) ∧ w' = w)) ∧ (¬ ((f_13 w a) ≤ x2) → ((gk_out x2 60 = false) ∧ ((¬ (f_25 (f_23 w a x2)) = x1 → gk_W none (d + 1) 111 2 [some (.ref (a + 1)), some (.int x1), some (.int (x2 + 1)), none, none] [] w r w') ∧ ((f_25 (f_23 w a x2)) = x1 → (((f_24 (f_23 w a x2)) ≤ 0 → gk_W none (d + 1) 111 2 [some (.ref (a + 1)), some (.int x1), some (.int (x2 + 1)), none, none] [] w r w') ∧ (¬ ((f_24 (f_23 w a x2)) ≤ 0) → ((x1 ≤ (f_26 (f_23 w a x2) 1) → gk_W none (d + 1) 111 2 [some (.ref (a + 1)), some (.int x1), some (.int (x2 + 1)), none, none] [] w r w') ∧ (¬ (x1 ≤ (f_26 (f_23 w a x2) 1)) → (r = .inl (some (.int x2)) ∧ w' = w))))))))))) :
    gk_W none (d + 1) 111 2 [some (.ref (a + 1)), some (.int x1), some (.int x2), none, none] [] w r w' := by
  refine gk_W_s 2 (pc1 := 4) (l1 := [some (.ref (a + 1)), some (.int x1), some (.int x2), none, none]) (st1 := [.ref (a + 1), .int x2]) rfl ?_
  refine gk_W_c (i := .invokevirtual 69) [.int (f_13 w a), .int x2] 7 rfl rfl (c_v (a := a) hS haa.1 rfl rfl (Nat.le_of_ble_eq_true rfl)) (f_13_E hS ⟨haa.1, haa.2⟩) rfl rfl ?_
  refine gk_W_b 1 ((f_13 w a) ≤ x2) (t := 48) (e := 10) (l1 := [some (.ref (a + 1)), some (.int x1), some (.int x2), none, none]) (st1 := []) rfl (fun hp1 => ?_) (fun hp1 => ?_)
  · have h := h.1 hp1
    refine gk_W_s 1 (pc1 := 49) (l1 := [some (.ref (a + 1)), some (.int x1), some (.int x2), none, none]) (st1 := [.int ((-1))]) rfl ?_
    obtain ⟨rfl, rfl⟩ := h
    exact gk_W_r (i := .ireturn) rfl rfl rfl
  · have h := h.2 hp1
    refine gk_W_s 2 (pc1 := 12) (l1 := [some (.ref (a + 1)), some (.int x1), some (.int x2), none, none]) (st1 := [.int x2, .ref (a + 1)]) rfl ?_
    obtain ⟨hb2, h⟩ := h
    refine gk_W_c (i := .invokevirtual 72) [.long (f_23 w a x2)] 15 rfl rfl (c_v (a := a) hS haa.1 rfl rfl (Nat.le_of_ble_eq_true rfl)) (f_23_E hS ⟨haa.1, haa.2⟩ x2 hb2) rfl rfl ?_
    refine gk_W_s 2 (pc1 := 17) (l1 := [some (.ref (a + 1)), some (.int x1), some (.int x2), some (.long (f_23 w a x2)), none]) (st1 := [.long (f_23 w a x2)]) rfl ?_
    refine gk_W_c (i := .invokestatic 76) [.int (f_25 (f_23 w a x2))] 20 rfl rfl rfl (f_25_E (f_23 w a x2)) rfl rfl ?_
    refine gk_W_b 2 (¬ (f_25 (f_23 w a x2)) = x1) (t := 42) (e := 24) (l1 := [some (.ref (a + 1)), some (.int x1), some (.int x2), some (.long (f_23 w a x2)), none]) (st1 := []) rfl (fun hp3 => ?_) (fun hp3 => ?_)
    · have h := h.1 hp3
      refine gk_W_s 2 (pc1 := 2) (l1 := [some (.ref (a + 1)), some (.int x1), some (.int (x2 + 1)), some (.long (f_23 w a x2)), none]) (st1 := []) rfl ?_
      exact gk_W_le (gk_le_s (gk_le_s (gk_le_s (gk_le_n (gk_le_s (gk_le_0)))))) h
    · have h := h.2 (Decidable.not_not.mp hp3)
      refine gk_W_s 1 (pc1 := 25) (l1 := [some (.ref (a + 1)), some (.int x1), some (.int x2), some (.long (f_23 w a x2)), none]) (st1 := [.long (f_23 w a x2)]) rfl ?_
      refine gk_W_c (i := .invokestatic 80) [.int (f_24 (f_23 w a x2))] 28 rfl rfl rfl (f_24_E (f_23 w a x2)) rfl rfl ?_
      refine gk_W_b 1 ((f_24 (f_23 w a x2)) ≤ 0) (t := 42) (e := 31) (l1 := [some (.ref (a + 1)), some (.int x1), some (.int x2), some (.long (f_23 w a x2)), none]) (st1 := []) rfl (fun hp4 => ?_) (fun hp4 => ?_)
      · have h := h.1 hp4
        refine gk_W_s 2 (pc1 := 2) (l1 := [some (.ref (a + 1)), some (.int x1), some (.int (x2 + 1)), some (.long (f_23 w a x2)), none]) (st1 := []) rfl ?_
        exact gk_W_le (gk_le_s (gk_le_s (gk_le_s (gk_le_n (gk_le_s (gk_le_0)))))) h
      · have h := h.2 hp4
        refine gk_W_s 2 (pc1 := 33) (l1 := [some (.ref (a + 1)), some (.int x1), some (.int x2), some (.long (f_23 w a x2)), none]) (st1 := [.int 1, .long (f_23 w a x2)]) rfl ?_
        refine gk_W_c (i := .invokestatic 83) [.int (f_26 (f_23 w a x2) 1)] 36 rfl rfl rfl (f_26_E (f_23 w a x2) 1) rfl rfl ?_
        refine gk_W_b 2 (x1 ≤ (f_26 (f_23 w a x2) 1)) (t := 42) (e := 40) (l1 := [some (.ref (a + 1)), some (.int x1), some (.int x2), some (.long (f_23 w a x2)), none]) (st1 := []) rfl (fun hp5 => ?_) (fun hp5 => ?_)
        · have h := h.1 hp5
          refine gk_W_s 2 (pc1 := 2) (l1 := [some (.ref (a + 1)), some (.int x1), some (.int (x2 + 1)), some (.long (f_23 w a x2)), none]) (st1 := []) rfl ?_
          exact gk_W_le (gk_le_s (gk_le_s (gk_le_s (gk_le_n (gk_le_s (gk_le_0)))))) h
        · have h := h.2 hp5
          refine gk_W_s 1 (pc1 := 41) (l1 := [some (.ref (a + 1)), some (.int x1), some (.int x2), some (.long (f_23 w a x2)), none]) (st1 := [.int x2]) rfl ?_
          obtain ⟨rfl, rfl⟩ := h
          exact gk_W_r (i := .ireturn) rfl rfl rfl
/-- GrammarDesk$GreibachMaker.replaceLead(LGrammarDesk$RuleSet;I)Z, at 0 -/
theorem sg_112_0 {d : Nat} {rr : List gk_S} {w w' : gk_Wd} {r : gk_Res} (hS : gk_Sh rr w) {a : Nat} (haa : gk_rs a) (x2 : Int32)
    (h : (((w_i (w_si w 11 2 ((w_i w 11 2) + 1)) 11 2) ≤ 300 → ((gk_out x2 60 = false) ∧ (∃ (w4 : gk_Wd), gk_E (d + 1) 14 [.ref (a + 1), .int x2] (w_si w 11 2 ((w_i w 11 2) + 1)) (.inl none) w4 ∧ gk_Sh rr w4 ∧ (∃ (w7 : gk_Wd), gk_E (d + 1) 20 [.ref 13, .ref (a + 1)] w4 (.inl none) w7 ∧ gk_Sh rr w7 ∧ gk_W none (d + 2) 112 51 [some (.ref 12), some (.ref (a + 1)), none, some (.long (f_23 (w_si w 11 2 ((w_i w 11 2) + 1)) a x2)), none, some (.int (f_26 (f_23 (w_si w 11 2 ((w_i w 11 2) + 1)) a x2) 1)), some (.int 0), none, none, none, none] [] w7 r w')))) ∧ (¬ ((w_i (w_si w 11 2 ((w_i w 11 2) + 1)) 11 2) ≤ 300) → (r = .inl (some (.int 0)) ∧ w' = w_si w 11 2 ((w_i w 11 2) + 1))))) :
    gk_W none (d + 2) 112 0 [some (.ref 12), some (.ref (a + 1)), some (.int x2), none, none, none, none, none, none, none, none] [] w r w' := by
  refine gk_W_s 2 (pc1 := 2) (l1 := [some (.ref 12), some (.ref (a + 1)), some (.int x2), none, none, none, none, none, none, none, none]) (st1 := [.ref 12, .ref 12]) rfl ?_
  refine gk_W_h (i := .getfield 22) 5 rfl rfl (h_gi (a := 11) (k := 2) hS ly_11 rfl) rfl ?_
  refine gk_W_s 2 (pc1 := 7) (l1 := [some (.ref 12), some (.ref (a + 1)), some (.int x2), none, none, none, none, none, none, none, none]) (st1 := [.int ((w_i w 11 2) + 1), .ref 12]) rfl ?_
  refine gk_W_h (i := .putfield 22) 10 rfl rfl (h_pi (a := 11) (k := 2) (x := (w_i w 11 2) + 1) hS ly_11 rfl rfl) rfl ?_
  refine gk_W_s 1 (pc1 := 11) (l1 := [some (.ref 12), some (.ref (a + 1)), some (.int x2), none, none, none, none, none, none, none, none]) (st1 := [.ref 12]) rfl ?_
  refine gk_W_h (i := .getfield 22) 14 rfl rfl (h_gi (a := 11) (k := 2) (sh_si hS ly_11 (k := 2) rfl ((w_i w 11 2) + 1)) ly_11 rfl) rfl ?_
  refine gk_W_b 2 ((w_i (w_si w 11 2 ((w_i w 11 2) + 1)) 11 2) ≤ 300) (t := 22) (e := 20) (l1 := [some (.ref 12), some (.ref (a + 1)), some (.int x2), none, none, none, none, none, none, none, none]) (st1 := []) rfl (fun hp1 => ?_) (fun hp1 => ?_)
  · have h := h.1 hp1
    refine gk_W_s 2 (pc1 := 24) (l1 := [some (.ref 12), some (.ref (a + 1)), some (.int x2), none, none, none, none, none, none, none, none]) (st1 := [.int x2, .ref (a + 1)]) rfl ?_
    obtain ⟨hb2, h⟩ := h
    refine gk_W_c (i := .invokevirtual 72) [.long (f_23 (w_si w 11 2 ((w_i w 11 2) + 1)) a x2)] 27 rfl rfl (c_v (a := a) (sh_si hS ly_11 (k := 2) rfl ((w_i w 11 2) + 1)) haa.1 rfl rfl (Nat.le_of_ble_eq_true rfl)) (f_23_E (sh_si hS ly_11 (k := 2) rfl ((w_i w 11 2) + 1)) ⟨haa.1, haa.2⟩ x2 hb2) rfl rfl ?_
    refine gk_W_s 3 (pc1 := 30) (l1 := [some (.ref 12), some (.ref (a + 1)), some (.int x2), some (.long (f_23 (w_si w 11 2 ((w_i w 11 2) + 1)) a x2)), none, none, none, none, none, none, none]) (st1 := [.int 1, .long (f_23 (w_si w 11 2 ((w_i w 11 2) + 1)) a x2)]) rfl ?_
    refine gk_W_c (i := .invokestatic 83) [.int (f_26 (f_23 (w_si w 11 2 ((w_i w 11 2) + 1)) a x2) 1)] 33 rfl rfl rfl (f_26_E (f_23 (w_si w 11 2 ((w_i w 11 2) + 1)) a x2) 1) rfl rfl ?_
    refine gk_W_s 3 (pc1 := 37) (l1 := [some (.ref 12), some (.ref (a + 1)), some (.int x2), some (.long (f_23 (w_si w 11 2 ((w_i w 11 2) + 1)) a x2)), none, some (.int (f_26 (f_23 (w_si w 11 2 ((w_i w 11 2) + 1)) a x2) 1)), none, none, none, none, none]) (st1 := [.int x2, .ref (a + 1)]) rfl ?_
    obtain ⟨w4, hE3, hS5, h⟩ := h
    refine gk_W_c (i := .invokevirtual 87) [] 40 rfl rfl (c_v (a := a) (sh_si hS ly_11 (k := 2) rfl ((w_i w 11 2) + 1)) haa.1 rfl rfl (Nat.le_of_ble_eq_true rfl)) hE3 rfl rfl ?_
    refine gk_W_s 1 (pc1 := 41) (l1 := [some (.ref 12), some (.ref (a + 1)), some (.int x2), some (.long (f_23 (w_si w 11 2 ((w_i w 11 2) + 1)) a x2)), none, some (.int (f_26 (f_23 (w_si w 11 2 ((w_i w 11 2) + 1)) a x2) 1)), none, none, none, none, none]) (st1 := [.ref 12]) rfl ?_
    refine gk_W_h (i := .getfield 18) 44 rfl rfl (h_gr (a := 11) (k := 1) (m := 13) hS5 ly_11 rfl) rfl ?_
    refine gk_W_s 1 (pc1 := 45) (l1 := [some (.ref 12), some (.ref (a + 1)), some (.int x2), some (.long (f_23 (w_si w 11 2 ((w_i w 11 2) + 1)) a x2)), none, some (.int (f_26 (f_23 (w_si w 11 2 ((w_i w 11 2) + 1)) a x2) 1)), none, none, none, none, none]) (st1 := [.ref (a + 1), .ref 13]) rfl ?_
    obtain ⟨w7, hE6, hS8, h⟩ := h
    refine gk_W_c (i := .invokevirtual 91) [] 48 rfl rfl (c_v (a := 12) hS5 ly_12 rfl rfl (Nat.le_of_ble_eq_true rfl)) hE6 rfl rfl ?_
    refine gk_W_s 2 (pc1 := 51) (l1 := [some (.ref 12), some (.ref (a + 1)), some (.int x2), some (.long (f_23 (w_si w 11 2 ((w_i w 11 2) + 1)) a x2)), none, some (.int (f_26 (f_23 (w_si w 11 2 ((w_i w 11 2) + 1)) a x2) 1)), some (.int 0), none, none, none, none]) (st1 := []) rfl ?_
    exact gk_W_le (gk_le_s (gk_le_s (gk_le_n (gk_le_s (gk_le_s (gk_le_s (gk_le_s (gk_le_s (gk_le_s (gk_le_s (gk_le_s (gk_le_0)))))))))))) h
  · have h := h.2 hp1
    refine gk_W_s 1 (pc1 := 21) (l1 := [some (.ref 12), some (.ref (a + 1)), some (.int x2), none, none, none, none, none, none, none, none]) (st1 := [.int 0]) rfl ?_
    obtain ⟨rfl, rfl⟩ := h
    exact gk_W_r (i := .ireturn) rfl rfl rfl
/-- GrammarDesk$GreibachMaker.replaceLead(LGrammarDesk$RuleSet;I)Z, at 51 -/
theorem sg_112_51 {d : Nat} {rr : List gk_S} {w w' : gk_Wd} {r : gk_Res} (hS : gk_Sh rr w) {a : Nat} (haa : gk_rs a) (y3 : Int64) (x5 : Int32) (x6 : Int32)
    (h : (((f_13 w 12) ≤ x6 → (r = .inl (some (.int 1)) ∧ w' = w)) ∧ (¬ ((f_13 w 12) ≤ x6) → ((gk_out x6 60 = false) ∧ ((¬ (f_25 (f_23 w 12 x6)) = x5 → gk_W none (d + 2) 112 51 [some (.ref 12), some (.ref (a + 1)), none, some (.long y3), none, some (.int x5), some (.int (x6 + 1)), none, none, none, none] [] w r w') ∧ ((f_25 (f_23 w 12 x6)) = x5 → (∃ (v5 : Int64), gk_E (d + 1) 113 [.long (f_105 (f_23 w 12 x6) (f_25 y3)), .long y3, .int 2] w (.inl (some (.long v5))) w ∧ (∃ (v7 : Int32), ∃ (w8 : gk_Wd), gk_E (d + 1) 94 [.ref (a + 1), .long v5] w (.inl (some (.int v7))) w8 ∧ gk_Sh rr w8 ∧ ((¬ v7 = 0 → gk_W none (d + 2) 112 51 [some (.ref 12), some (.ref (a + 1)), none, some (.long y3), none, some (.int x5), some (.int (x6 + 1)), none, none, none, none] [] w8 r w') ∧ (v7 = 0 → (r = .inl (some (.int 0)) ∧ w' = w8))))))))))) :
    gk_W none (d + 2) 112 51 [some (.ref 12), some (.ref (a + 1)), none, some (.long y3), none, some (.int x5), some (.int x6), none, none, none, none] [] w r w' := by
  refine gk_W_s 2 (pc1 := 54) (l1 := [some (.ref 12), some (.ref (a + 1)), none, some (.long y3), none, some (.int x5), some (.int x6), none, none, none, none]) (st1 := [.ref 12, .int x6]) rfl ?_
  refine gk_W_h (i := .getfield 18) 57 rfl rfl (h_gr (a := 11) (k := 1) (m := 13) hS ly_11 rfl) rfl ?_
  refine gk_W_c (i := .invokevirtual 69) [.int (f_13 w 12), .int x6] 60 rfl rfl (c_v (a := 12) hS ly_12 rfl rfl (Nat.le_of_ble_eq_true rfl)) (f_13_E hS rs_12) rfl rfl ?_
  refine gk_W_b 1 ((f_13 w 12) ≤ x6) (t := 117) (e := 63) (l1 := [some (.ref 12), some (.ref (a + 1)), none, some (.long y3), none, some (.int x5), some (.int x6), none, none, none, none]) (st1 := []) rfl (fun hp1 => ?_) (fun hp1 => ?_)
  · have h := h.1 hp1
    refine gk_W_s 1 (pc1 := 118) (l1 := [some (.ref 12), some (.ref (a + 1)), none, some (.long y3), none, some (.int x5), some (.int x6), none, none, none, none]) (st1 := [.int 1]) rfl ?_
    obtain ⟨rfl, rfl⟩ := h
    exact gk_W_r (i := .ireturn) rfl rfl rfl
  · have h := h.2 hp1
    refine gk_W_s 1 (pc1 := 64) (l1 := [some (.ref 12), some (.ref (a + 1)), none, some (.long y3), none, some (.int x5), some (.int x6), none, none, none, none]) (st1 := [.ref 12]) rfl ?_
    refine gk_W_h (i := .getfield 18) 67 rfl rfl (h_gr (a := 11) (k := 1) (m := 13) hS ly_11 rfl) rfl ?_
    refine gk_W_s 1 (pc1 := 69) (l1 := [some (.ref 12), some (.ref (a + 1)), none, some (.long y3), none, some (.int x5), some (.int x6), none, none, none, none]) (st1 := [.int x6, .ref 13]) rfl ?_
    obtain ⟨hb2, h⟩ := h
    refine gk_W_c (i := .invokevirtual 72) [.long (f_23 w 12 x6)] 72 rfl rfl (c_v (a := 12) hS ly_12 rfl rfl (Nat.le_of_ble_eq_true rfl)) (f_23_E hS rs_12 x6 hb2) rfl rfl ?_
    refine gk_W_s 2 (pc1 := 76) (l1 := [some (.ref 12), some (.ref (a + 1)), none, some (.long y3), none, some (.int x5), some (.int x6), some (.long (f_23 w 12 x6)), none, none, none]) (st1 := [.long (f_23 w 12 x6)]) rfl ?_
    refine gk_W_c (i := .invokestatic 76) [.int (f_25 (f_23 w 12 x6))] 79 rfl rfl rfl (f_25_E (f_23 w 12 x6)) rfl rfl ?_
    refine gk_W_b 2 (¬ (f_25 (f_23 w 12 x6)) = x5) (t := 111) (e := 84) (l1 := [some (.ref 12), some (.ref (a + 1)), none, some (.long y3), none, some (.int x5), some (.int x6), some (.long (f_23 w 12 x6)), none, none, none]) (st1 := []) rfl (fun hp3 => ?_) (fun hp3 => ?_)
    · have h := h.1 hp3
      refine gk_W_s 2 (pc1 := 51) (l1 := [some (.ref 12), some (.ref (a + 1)), none, some (.long y3), none, some (.int x5), some (.int (x6 + 1)), some (.long (f_23 w 12 x6)), none, none, none]) (st1 := []) rfl ?_
      exact gk_W_le (gk_le_s (gk_le_s (gk_le_s (gk_le_s (gk_le_s (gk_le_s (gk_le_s (gk_le_n (gk_le_s (gk_le_s (gk_le_s (gk_le_0)))))))))))) h
    · have h := h.2 (Decidable.not_not.mp hp3)
      refine gk_W_s 2 (pc1 := 87) (l1 := [some (.ref 12), some (.ref (a + 1)), none, some (.long y3), none, some (.int x5), some (.int x6), some (.long (f_23 w 12 x6)), none, none, none]) (st1 := [.long y3, .long (f_23 w 12 x6)]) rfl ?_
      refine gk_W_c (i := .invokestatic 76) [.int (f_25 y3), .long (f_23 w 12 x6)] 90 rfl rfl rfl (f_25_E y3) rfl rfl ?_
      refine gk_W_c (i := .invokestatic 95) [.long (f_105 (f_23 w 12 x6) (f_25 y3))] 93 rfl rfl rfl (f_105_E (f_23 w 12 x6) (f_25 y3)) rfl rfl ?_
      refine gk_W_s 5 (pc1 := 100) (l1 := [some (.ref 12), some (.ref (a + 1)), none, some (.long y3), none, some (.int x5), some (.int x6), some (.long (f_23 w 12 x6)), none, some (.long (f_105 (f_23 w 12 x6) (f_25 y3))), none]) (st1 := [.int 2, .long y3, .long (f_105 (f_23 w 12 x6) (f_25 y3)), .ref (a + 1)]) rfl ?_
      obtain ⟨v5, hE4, h⟩ := h
      refine gk_W_c (i := .invokestatic 99) [.long v5, .ref (a + 1)] 103 rfl rfl rfl hE4 rfl rfl ?_
      obtain ⟨v7, w8, hE6, hS9, h⟩ := h
      refine gk_W_c (i := .invokevirtual 103) [.int v7] 106 rfl rfl (c_v (a := a) hS haa.1 rfl rfl (Nat.le_of_ble_eq_true rfl)) hE6 rfl rfl ?_
      refine gk_W_b 1 (¬ v7 = 0) (t := 111) (e := 109) (l1 := [some (.ref 12), some (.ref (a + 1)), none, some (.long y3), none, some (.int x5), some (.int x6), some (.long (f_23 w 12 x6)), none, some (.long (f_105 (f_23 w 12 x6) (f_25 y3))), none]) (st1 := []) rfl (fun hp10 => ?_) (fun hp10 => ?_)
      · have h := h.1 hp10
        refine gk_W_s 2 (pc1 := 51) (l1 := [some (.ref 12), some (.ref (a + 1)), none, some (.long y3), none, some (.int x5), some (.int (x6 + 1)), some (.long (f_23 w 12 x6)), none, some (.long (f_105 (f_23 w 12 x6) (f_25 y3))), none]) (st1 := []) rfl ?_
        exact gk_W_le (gk_le_s (gk_le_s (gk_le_s (gk_le_s (gk_le_s (gk_le_s (gk_le_s (gk_le_n (gk_le_s (gk_le_n (gk_le_s (gk_le_0)))))))))))) h
      · have h := h.2 (Decidable.not_not.mp hp10)
        refine gk_W_s 1 (pc1 := 110) (l1 := [some (.ref 12), some (.ref (a + 1)), none, some (.long y3), none, some (.int x5), some (.int x6), some (.long (f_23 w 12 x6)), none, some (.long (f_105 (f_23 w 12 x6) (f_25 y3))), none]) (st1 := [.int 0]) rfl ?_
        obtain ⟨rfl, rfl⟩ := h
        exact gk_W_r (i := .ireturn) rfl rfl rfl
/-- GrammarDesk$GreibachMaker.replaceOwnLeads(LGrammarDesk$RuleSet;I)Z, at 0 -/
theorem sg_114_0 {d : Nat} {rr : List gk_S} {w w' : gk_Wd} {r : gk_Res} (hS : gk_Sh rr w) {a : Nat} (haa : gk_rs a) (x2 : Int32)
    (h : (∃ (v2 : Int32), gk_E d 115 [.ref (a + 1), .int x2] w (.inl (some (.int v2))) w ∧ ((¬ v2 = 0 → (∃ (v5 : Int32), gk_E d 117 [.ref (a + 1)] w (.inl (some (.int v5))) w ∧ ((¬ v5 = ((-1)) → (∃ (w8 : gk_Wd), gk_E d 20 [.ref 13, .ref (a + 1)] w (.inl none) w8 ∧ gk_Sh rr w8 ∧ gk_W none (d + 1) 114 33 [some (.ref 12), some (.ref (a + 1)), some (.int x2), some (.int v5), some (.int 0), none, none] [] w8 r w')) ∧ (v5 = ((-1)) → (r = .inl (some (.int 0)) ∧ w' = w))))) ∧ (v2 = 0 → (r = .inl (some (.int 1)) ∧ w' = w))))) :
    gk_W none (d + 1) 114 0 [some (.ref 12), some (.ref (a + 1)), some (.int x2), none, none, none, none] [] w r w' := by
  refine gk_W_s 2 (pc1 := 2) (l1 := [some (.ref 12), some (.ref (a + 1)), some (.int x2), none, none, none, none]) (st1 := [.int x2, .ref (a + 1)]) rfl ?_
  obtain ⟨v2, hE1, h⟩ := h
  refine gk_W_c (i := .invokestatic 107) [.int v2] 5 rfl rfl rfl hE1 rfl rfl ?_
  refine gk_W_b 1 (¬ v2 = 0) (t := 10) (e := 8) (l1 := [some (.ref 12), some (.ref (a + 1)), some (.int x2), none, none, none, none]) (st1 := []) rfl (fun hp3 => ?_) (fun hp3 => ?_)
  · have h := h.1 hp3
    refine gk_W_s 1 (pc1 := 11) (l1 := [some (.ref 12), some (.ref (a + 1)), some (.int x2), none, none, none, none]) (st1 := [.ref (a + 1)]) rfl ?_
    obtain ⟨v5, hE4, h⟩ := h
    refine gk_W_c (i := .invokevirtual 110) [.int v5] 14 rfl rfl (c_v (a := a) hS haa.1 rfl rfl (Nat.le_of_ble_eq_true rfl)) hE4 rfl rfl ?_
    refine gk_W_b 4 (¬ v5 = ((-1))) (t := 22) (e := 20) (l1 := [some (.ref 12), some (.ref (a + 1)), some (.int x2), some (.int v5), none, none, none]) (st1 := []) rfl (fun hp6 => ?_) (fun hp6 => ?_)
    · have h := h.1 hp6
      refine gk_W_s 1 (pc1 := 23) (l1 := [some (.ref 12), some (.ref (a + 1)), some (.int x2), some (.int v5), none, none, none]) (st1 := [.ref 12]) rfl ?_
      refine gk_W_h (i := .getfield 18) 26 rfl rfl (h_gr (a := 11) (k := 1) (m := 13) hS ly_11 rfl) rfl ?_
      refine gk_W_s 1 (pc1 := 27) (l1 := [some (.ref 12), some (.ref (a + 1)), some (.int x2), some (.int v5), none, none, none]) (st1 := [.ref (a + 1), .ref 13]) rfl ?_
      obtain ⟨w8, hE7, hS9, h⟩ := h
      refine gk_W_c (i := .invokevirtual 91) [] 30 rfl rfl (c_v (a := 12) hS ly_12 rfl rfl (Nat.le_of_ble_eq_true rfl)) hE7 rfl rfl ?_
      refine gk_W_s 2 (pc1 := 33) (l1 := [some (.ref 12), some (.ref (a + 1)), some (.int x2), some (.int v5), some (.int 0), none, none]) (st1 := []) rfl ?_
      exact h
    · have h := h.2 (Decidable.not_not.mp hp6)
      refine gk_W_s 1 (pc1 := 21) (l1 := [some (.ref 12), some (.ref (a + 1)), some (.int x2), some (.int v5), none, none, none]) (st1 := [.int 0]) rfl ?_
      obtain ⟨rfl, rfl⟩ := h
      exact gk_W_r (i := .ireturn) rfl rfl rfl
  · have h := h.2 (Decidable.not_not.mp hp3)
    refine gk_W_s 1 (pc1 := 9) (l1 := [some (.ref 12), some (.ref (a + 1)), some (.int x2), none, none, none, none]) (st1 := [.int 1]) rfl ?_
    obtain ⟨rfl, rfl⟩ := h
    exact gk_W_r (i := .ireturn) rfl rfl rfl
/-- GrammarDesk$GreibachMaker.replaceOwnLeads(LGrammarDesk$RuleSet;I)Z, at 33 -/
theorem sg_114_33 {d : Nat} {rr : List gk_S} {w w' : gk_Wd} {r : gk_Res} (hS : gk_Sh rr w) {a : Nat} (haa : gk_rs a) (x2 : Int32) (x3 : Int32) (x4 : Int32)
    (h : (((f_13 w 12) ≤ x4 → (r = .inl (some (.int 1)) ∧ w' = w)) ∧ (¬ ((f_13 w 12) ≤ x4) → ((gk_out x4 60 = false) ∧ ((¬ (f_25 (f_23 w 12 x4)) = x2 → gk_W none (d + 1) 114 33 [some (.ref 12), some (.ref (a + 1)), some (.int x2), some (.int x3), some (.int (x4 + 1)), none, none] [] w r w') ∧ ((f_25 (f_23 w 12 x4)) = x2 → (∃ (v5 : Int32), ∃ (w6 : gk_Wd), gk_E d 118 [.ref (a + 1), .long (f_23 w 12 x4), .int x3] w (.inl (some (.int v5))) w6 ∧ gk_Sh rr w6 ∧ ((¬ v5 = 0 → gk_W none (d + 1) 114 33 [some (.ref 12), some (.ref (a + 1)), some (.int x2), some (.int x3), some (.int (x4 + 1)), none, none] [] w6 r w') ∧ (v5 = 0 → (r = .inl (some (.int 0)) ∧ w' = w6)))))))))) :
    gk_W none (d + 1) 114 33 [some (.ref 12), some (.ref (a + 1)), some (.int x2), some (.int x3), some (.int x4), none, none] [] w r w' := by
  refine gk_W_s 2 (pc1 := 36) (l1 := [some (.ref 12), some (.ref (a + 1)), some (.int x2), some (.int x3), some (.int x4), none, none]) (st1 := [.ref 12, .int x4]) rfl ?_
  refine gk_W_h (i := .getfield 18) 39 rfl rfl (h_gr (a := 11) (k := 1) (m := 13) hS ly_11 rfl) rfl ?_
  refine gk_W_c (i := .invokevirtual 69) [.int (f_13 w 12), .int x4] 42 rfl rfl (c_v (a := 12) hS ly_12 rfl rfl (Nat.le_of_ble_eq_true rfl)) (f_13_E hS rs_12) rfl rfl ?_
  refine gk_W_b 1 ((f_13 w 12) ≤ x4) (t := 83) (e := 45) (l1 := [some (.ref 12), some (.ref (a + 1)), some (.int x2), some (.int x3), some (.int x4), none, none]) (st1 := []) rfl (fun hp1 => ?_) (fun hp1 => ?_)
  · have h := h.1 hp1
    refine gk_W_s 1 (pc1 := 84) (l1 := [some (.ref 12), some (.ref (a + 1)), some (.int x2), some (.int x3), some (.int x4), none, none]) (st1 := [.int 1]) rfl ?_
    obtain ⟨rfl, rfl⟩ := h
    exact gk_W_r (i := .ireturn) rfl rfl rfl
  · have h := h.2 hp1
    refine gk_W_s 1 (pc1 := 46) (l1 := [some (.ref 12), some (.ref (a + 1)), some (.int x2), some (.int x3), some (.int x4), none, none]) (st1 := [.ref 12]) rfl ?_
    refine gk_W_h (i := .getfield 18) 49 rfl rfl (h_gr (a := 11) (k := 1) (m := 13) hS ly_11 rfl) rfl ?_
    refine gk_W_s 1 (pc1 := 51) (l1 := [some (.ref 12), some (.ref (a + 1)), some (.int x2), some (.int x3), some (.int x4), none, none]) (st1 := [.int x4, .ref 13]) rfl ?_
    obtain ⟨hb2, h⟩ := h
    refine gk_W_c (i := .invokevirtual 72) [.long (f_23 w 12 x4)] 54 rfl rfl (c_v (a := 12) hS ly_12 rfl rfl (Nat.le_of_ble_eq_true rfl)) (f_23_E hS rs_12 x4 hb2) rfl rfl ?_
    refine gk_W_s 2 (pc1 := 58) (l1 := [some (.ref 12), some (.ref (a + 1)), some (.int x2), some (.int x3), some (.int x4), some (.long (f_23 w 12 x4)), none]) (st1 := [.long (f_23 w 12 x4)]) rfl ?_
    refine gk_W_c (i := .invokestatic 76) [.int (f_25 (f_23 w 12 x4))] 61 rfl rfl rfl (f_25_E (f_23 w 12 x4)) rfl rfl ?_
    refine gk_W_b 2 (¬ (f_25 (f_23 w 12 x4)) = x2) (t := 77) (e := 65) (l1 := [some (.ref 12), some (.ref (a + 1)), some (.int x2), some (.int x3), some (.int x4), some (.long (f_23 w 12 x4)), none]) (st1 := []) rfl (fun hp3 => ?_) (fun hp3 => ?_)
    · have h := h.1 hp3
      refine gk_W_s 2 (pc1 := 33) (l1 := [some (.ref 12), some (.ref (a + 1)), some (.int x2), some (.int x3), some (.int (x4 + 1)), some (.long (f_23 w 12 x4)), none]) (st1 := []) rfl ?_
      exact gk_W_le (gk_le_s (gk_le_s (gk_le_s (gk_le_s (gk_le_s (gk_le_n (gk_le_s (gk_le_0)))))))) h
    · have h := h.2 (Decidable.not_not.mp hp3)
      refine gk_W_s 3 (pc1 := 69) (l1 := [some (.ref 12), some (.ref (a + 1)), some (.int x2), some (.int x3), some (.int x4), some (.long (f_23 w 12 x4)), none]) (st1 := [.int x3, .long (f_23 w 12 x4), .ref (a + 1)]) rfl ?_
      obtain ⟨v5, w6, hE4, hS7, h⟩ := h
      refine gk_W_c (i := .invokestatic 113) [.int v5] 72 rfl rfl rfl hE4 rfl rfl ?_
      refine gk_W_b 1 (¬ v5 = 0) (t := 77) (e := 75) (l1 := [some (.ref 12), some (.ref (a + 1)), some (.int x2), some (.int x3), some (.int x4), some (.long (f_23 w 12 x4)), none]) (st1 := []) rfl (fun hp8 => ?_) (fun hp8 => ?_)
      · have h := h.1 hp8
        refine gk_W_s 2 (pc1 := 33) (l1 := [some (.ref 12), some (.ref (a + 1)), some (.int x2), some (.int x3), some (.int (x4 + 1)), some (.long (f_23 w 12 x4)), none]) (st1 := []) rfl ?_
        exact gk_W_le (gk_le_s (gk_le_s (gk_le_s (gk_le_s (gk_le_s (gk_le_n (gk_le_s (gk_le_0)))))))) h
      · have h := h.2 (Decidable.not_not.mp hp8)
        refine gk_W_s 1 (pc1 := 76) (l1 := [some (.ref 12), some (.ref (a + 1)), some (.int x2), some (.int x3), some (.int x4), some (.long (f_23 w 12 x4)), none]) (st1 := [.int 0]) rfl ?_
        obtain ⟨rfl, rfl⟩ := h
        exact gk_W_r (i := .ireturn) rfl rfl rfl
/-- GrammarDesk$GreibachMaker.hasOwnLead(LGrammarDesk$RuleSet;I)Z, at 0 -/
theorem sg_115_0 {d : Nat} {rr : List gk_S} {w w' : gk_Wd} {r : gk_Res} (hS : gk_Sh rr w) {a : Nat} (haa : gk_rs a) (x1 : Int32)
    (h : gk_W none (d + 2) 115 2 [some (.ref (a + 1)), some (.int x1), some (.int 0)] [] w r w') :
    gk_W none (d + 2) 115 0 [some (.ref (a + 1)), some (.int x1), none] [] w r w' := by
  refine gk_W_s 2 (pc1 := 2) (l1 := [some (.ref (a + 1)), some (.int x1), some (.int 0)]) (st1 := []) rfl ?_
  exact h
/-- GrammarDesk$GreibachMaker.hasOwnLead(LGrammarDesk$RuleSet;I)Z, at 2 -/
theorem sg_115_2 {d : Nat} {rr : List gk_S} {w w' : gk_Wd} {r : gk_Res} (hS : gk_Sh rr w) {a : Nat} (haa : gk_rs a) (x1 : Int32) (x2 : Int32)
    (h : (((f_13 w a) ≤ x2 → (r = .inl (some (.int 0)) ∧ w' = w)) ∧ (¬ ((f_13 w a) ≤ x2) → ((gk_out x2 60 = false) ∧ ((¬ (f_25 (f_23 w a x2)) = x1 → gk_W none (d + 2) 115 2 [some (.ref (a + 1)), some (.int x1), some (.int (x2 + 1))] [] w r w') ∧ ((f_25 (f_23 w a x2)) = x1 → ((gk_out x2 60 = false) ∧ (((f_116 (f_23 w a x2)) = 0 → gk_W none (d + 2) 115 2 [some (.ref (a + 1)), some (.int x1), some (.int (x2 + 1))] [] w r w') ∧ (¬ ((f_116 (f_23 w a x2)) = 0) → (r = .inl (some (.int 1)) ∧ w' = w)))))))))) :
    gk_W none (d + 2) 115 2 [some (.ref (a + 1)), some (.int x1), some (.int x2)] [] w r w' := by
  refine gk_W_s 2 (pc1 := 4) (l1 := [some (.ref (a + 1)), some (.int x1), some (.int x2)]) (st1 := [.ref (a + 1), .int x2]) rfl ?_
  refine gk_W_c (i := .invokevirtual 69) [.int (f_13 w a), .int x2] 7 rfl rfl (c_v (a := a) hS haa.1 rfl rfl (Nat.le_of_ble_eq_true rfl)) (f_13_E hS ⟨haa.1, haa.2⟩) rfl rfl ?_
  refine gk_W_b 1 ((f_13 w a) ≤ x2) (t := 41) (e := 10) (l1 := [some (.ref (a + 1)), some (.int x1), some (.int x2)]) (st1 := []) rfl (fun hp1 => ?_) (fun hp1 => ?_)
  · have h := h.1 hp1
    refine gk_W_s 1 (pc1 := 42) (l1 := [some (.ref (a + 1)), some (.int x1), some (.int x2)]) (st1 := [.int 0]) rfl ?_
    obtain ⟨rfl, rfl⟩ := h
    exact gk_W_r (i := .ireturn) rfl rfl rfl
  · have h := h.2 hp1
    refine gk_W_s 2 (pc1 := 12) (l1 := [some (.ref (a + 1)), some (.int x1), some (.int x2)]) (st1 := [.int x2, .ref (a + 1)]) rfl ?_
    obtain ⟨hb2, h⟩ := h
    refine gk_W_c (i := .invokevirtual 72) [.long (f_23 w a x2)] 15 rfl rfl (c_v (a := a) hS haa.1 rfl rfl (Nat.le_of_ble_eq_true rfl)) (f_23_E hS ⟨haa.1, haa.2⟩ x2 hb2) rfl rfl ?_
    refine gk_W_c (i := .invokestatic 76) [.int (f_25 (f_23 w a x2))] 18 rfl rfl rfl (f_25_E (f_23 w a x2)) rfl rfl ?_
    refine gk_W_b 2 (¬ (f_25 (f_23 w a x2)) = x1) (t := 35) (e := 22) (l1 := [some (.ref (a + 1)), some (.int x1), some (.int x2)]) (st1 := []) rfl (fun hp3 => ?_) (fun hp3 => ?_)
    · have h := h.1 hp3
      refine gk_W_s 2 (pc1 := 2) (l1 := [some (.ref (a + 1)), some (.int x1), some (.int (x2 + 1))]) (st1 := []) rfl ?_
      exact h
    · have h := h.2 (Decidable.not_not.mp hp3)
      refine gk_W_s 2 (pc1 := 24) (l1 := [some (.ref (a + 1)), some (.int x1), some (.int x2)]) (st1 := [.int x2, .ref (a + 1)]) rfl ?_
      obtain ⟨hb4, h⟩ := h
      refine gk_W_c (i := .invokevirtual 72) [.long (f_23 w a x2)] 27 rfl rfl (c_v (a := a) hS haa.1 rfl rfl (Nat.le_of_ble_eq_true rfl)) (f_23_E hS ⟨haa.1, haa.2⟩ x2 hb4) rfl rfl ?_
      refine gk_W_c (i := .invokestatic 117) [.int (f_116 (f_23 w a x2))] 30 rfl rfl rfl (f_116_E (f_23 w a x2)) rfl rfl ?_
      refine gk_W_b 1 ((f_116 (f_23 w a x2)) = 0) (t := 35) (e := 33) (l1 := [some (.ref (a + 1)), some (.int x1), some (.int x2)]) (st1 := []) rfl (fun hp5 => ?_) (fun hp5 => ?_)
      · have h := h.1 hp5
        refine gk_W_s 2 (pc1 := 2) (l1 := [some (.ref (a + 1)), some (.int x1), some (.int (x2 + 1))]) (st1 := []) rfl ?_
        exact h
      · have h := h.2 hp5
        refine gk_W_s 1 (pc1 := 34) (l1 := [some (.ref (a + 1)), some (.int x1), some (.int x2)]) (st1 := [.int 1]) rfl ?_
        obtain ⟨rfl, rfl⟩ := h
        exact gk_W_r (i := .ireturn) rfl rfl rfl
/-- GrammarDesk$GreibachMaker.addTail(LGrammarDesk$RuleSet;JI)Z, at 0 -/
theorem sg_118_0 {d : Nat} {rr : List gk_S} {w w' : gk_Wd} {r : gk_Res} (hS : gk_Sh rr w) {a : Nat} (haa : gk_rs a) (y1 : Int64) (x3 : Int32)
    (h : ((¬ (f_116 y1) = 0 → (∃ (w3 : gk_Wd), gk_E (d + 1) 119 [.ref (a + 1), .long y1] w (.inl none) w3 ∧ gk_Sh rr w3 ∧ (∃ (v6 : Int64), gk_E (d + 1) 113 [.long (f_90 x3), .long y1, .int 2] w3 (.inl (some (.long v6))) w3 ∧ (∃ (v8 : Int32), ∃ (w9 : gk_Wd), gk_E (d + 1) 94 [.ref (a + 1), .long v6] w3 (.inl (some (.int v8))) w9 ∧ gk_Sh rr w9 ∧ ((v8 = 0 → (r = .inl (some (.int 0)) ∧ w' = w9)) ∧ (¬ (v8 = 0) → (∃ (v13 : Int32), ∃ (w14 : gk_Wd), gk_E (d + 1) 94 [.ref (a + 1), .long (f_91 v6 x3)] w9 (.inl (some (.int v13))) w14 ∧ gk_Sh rr w14 ∧ ((v13 = 0 → (r = .inl (some (.int 0)) ∧ w' = w14)) ∧ (¬ (v13 = 0) → (r = .inl (some (.int 1)) ∧ w' = w14)))))))))) ∧ ((f_116 y1) = 0 → (∃ (v18 : Int32), ∃ (w19 : gk_Wd), gk_E (d + 1) 94 [.ref (a + 1), .long (f_91 y1 x3)] w (.inl (some (.int v18))) w19 ∧ gk_Sh rr w19 ∧ (fits .boolean (.int v18) = true ∧ r = .inl (some (.int v18)) ∧ w' = w19))))) :
    gk_W none (d + 2) 118 0 [some (.ref (a + 1)), some (.long y1), none, some (.int x3), none, none] [] w r w' := by
  refine gk_W_s 1 (pc1 := 1) (l1 := [some (.ref (a + 1)), some (.long y1), none, some (.int x3), none, none]) (st1 := [.long y1]) rfl ?_
  refine gk_W_c (i := .invokestatic 117) [.int (f_116 y1)] 4 rfl rfl rfl (f_116_E y1) rfl rfl ?_
  refine gk_W_b 1 (¬ (f_116 y1) = 0) (t := 17) (e := 7) (l1 := [some (.ref (a + 1)), some (.long y1), none, some (.int x3), none, none]) (st1 := []) rfl (fun hp1 => ?_) (fun hp1 => ?_)
  · have h := h.1 hp1
    refine gk_W_s 2 (pc1 := 19) (l1 := [some (.ref (a + 1)), some (.long y1), none, some (.int x3), none, none]) (st1 := [.long y1, .ref (a + 1)]) rfl ?_
    obtain ⟨w3, hE2, hS4, h⟩ := h
    refine gk_W_c (i := .invokevirtual 123) [] 22 rfl rfl (c_v (a := a) hS haa.1 rfl rfl (Nat.le_of_ble_eq_true rfl)) hE2 rfl rfl ?_
    refine gk_W_s 1 (pc1 := 23) (l1 := [some (.ref (a + 1)), some (.long y1), none, some (.int x3), none, none]) (st1 := [.int x3]) rfl ?_
    refine gk_W_c (i := .invokestatic 127) [.long (f_90 x3)] 26 rfl rfl rfl (f_90_E x3) rfl rfl ?_
    refine gk_W_s 2 (pc1 := 28) (l1 := [some (.ref (a + 1)), some (.long y1), none, some (.int x3), none, none]) (st1 := [.int 2, .long y1, .long (f_90 x3)]) rfl ?_
    obtain ⟨v6, hE5, h⟩ := h
    refine gk_W_c (i := .invokestatic 99) [.long v6] 31 rfl rfl rfl hE5 rfl rfl ?_
    refine gk_W_s 3 (pc1 := 36) (l1 := [some (.ref (a + 1)), some (.long y1), none, some (.int x3), some (.long v6), none]) (st1 := [.long v6, .ref (a + 1)]) rfl ?_
    obtain ⟨v8, w9, hE7, hS10, h⟩ := h
    refine gk_W_c (i := .invokevirtual 103) [.int v8] 39 rfl rfl (c_v (a := a) hS4 haa.1 rfl rfl (Nat.le_of_ble_eq_true rfl)) hE7 rfl rfl ?_
    refine gk_W_b 1 (v8 = 0) (t := 59) (e := 42) (l1 := [some (.ref (a + 1)), some (.long y1), none, some (.int x3), some (.long v6), none]) (st1 := []) rfl (fun hp11 => ?_) (fun hp11 => ?_)
    · have h := h.1 hp11
      refine gk_W_s 1 (pc1 := 60) (l1 := [some (.ref (a + 1)), some (.long y1), none, some (.int x3), some (.long v6), none]) (st1 := [.int 0]) rfl ?_
      obtain ⟨rfl, rfl⟩ := h
      exact gk_W_r (i := .ireturn) rfl rfl rfl
    · have h := h.2 hp11
      refine gk_W_s 3 (pc1 := 46) (l1 := [some (.ref (a + 1)), some (.long y1), none, some (.int x3), some (.long v6), none]) (st1 := [.int x3, .long v6, .ref (a + 1)]) rfl ?_
      refine gk_W_c (i := .invokestatic 120) [.long (f_91 v6 x3), .ref (a + 1)] 49 rfl rfl rfl (f_91_E v6 x3) rfl rfl ?_
      obtain ⟨v13, w14, hE12, hS15, h⟩ := h
      refine gk_W_c (i := .invokevirtual 103) [.int v13] 52 rfl rfl (c_v (a := a) hS10 haa.1 rfl rfl (Nat.le_of_ble_eq_true rfl)) hE12 rfl rfl ?_
      refine gk_W_b 1 (v13 = 0) (t := 59) (e := 55) (l1 := [some (.ref (a + 1)), some (.long y1), none, some (.int x3), some (.long v6), none]) (st1 := []) rfl (fun hp16 => ?_) (fun hp16 => ?_)
      · have h := h.1 hp16
        refine gk_W_s 1 (pc1 := 60) (l1 := [some (.ref (a + 1)), some (.long y1), none, some (.int x3), some (.long v6), none]) (st1 := [.int 0]) rfl ?_
        obtain ⟨rfl, rfl⟩ := h
        exact gk_W_r (i := .ireturn) rfl rfl rfl
      · have h := h.2 hp16
        refine gk_W_s 2 (pc1 := 60) (l1 := [some (.ref (a + 1)), some (.long y1), none, some (.int x3), some (.long v6), none]) (st1 := [.int 1]) rfl ?_
        obtain ⟨rfl, rfl⟩ := h
        exact gk_W_r (i := .ireturn) rfl rfl rfl
  · have h := h.2 (Decidable.not_not.mp hp1)
    refine gk_W_s 3 (pc1 := 10) (l1 := [some (.ref (a + 1)), some (.long y1), none, some (.int x3), none, none]) (st1 := [.int x3, .long y1, .ref (a + 1)]) rfl ?_
    refine gk_W_c (i := .invokestatic 120) [.long (f_91 y1 x3), .ref (a + 1)] 13 rfl rfl rfl (f_91_E y1 x3) rfl rfl ?_
    obtain ⟨v18, w19, hE17, hS20, h⟩ := h
    refine gk_W_c (i := .invokevirtual 103) [.int v18] 16 rfl rfl (c_v (a := a) hS haa.1 rfl rfl (Nat.le_of_ble_eq_true rfl)) hE17 rfl rfl ?_
    obtain ⟨hf, rfl, rfl⟩ := h
    exact gk_W_r (i := .ireturn) rfl rfl (gk_ret_f hf)
/-- GrammarDesk$GreibachMaker.replaceAllLeads(LGrammarDesk$RuleSet;I)Z, at 0 -/
theorem sg_120_0 {d : Nat} {rr : List gk_S} {w w' : gk_Wd} {r : gk_Res} (hS : gk_Sh rr w) {a : Nat} (haa : gk_rs a) (x2 : Int32)
    (h : gk_W none (d + 1) 120 2 [some (.ref 12), some (.ref (a + 1)), some (.int x2), some (.int 0), none] [] w r w') :
    gk_W none (d + 1) 120 0 [some (.ref 12), some (.ref (a + 1)), some (.int x2), none, none] [] w r w' := by
  refine gk_W_s 2 (pc1 := 2) (l1 := [some (.ref 12), some (.ref (a + 1)), some (.int x2), some (.int 0), none]) (st1 := []) rfl ?_
  exact h
/-- GrammarDesk$GreibachMaker.replaceAllLeads(LGrammarDesk$RuleSet;I)Z, at 2 -/
theorem sg_120_2 {d : Nat} {rr : List gk_S} {w w' : gk_Wd} {r : gk_Res} (hS : gk_Sh rr w) {a : Nat} (haa : gk_rs a) (x2 : Int32) (x3 : Int32)
    (h : ((300 < x3 → (r = .inl (some (.int 0)) ∧ w' = w)) ∧ (¬ (300 < x3) → (∃ (v3 : Int32), gk_E d 121 [.ref (a + 1), .int x2] w (.inl (some (.int v3))) w ∧ ((¬ v3 = ((-1)) → (∃ (v6 : Int32), ∃ (w7 : gk_Wd), gk_E d 112 [.ref 12, .ref (a + 1), .int v3] w (.inl (some (.int v6))) w7 ∧ gk_Sh rr w7 ∧ ((¬ v6 = 0 → gk_W none (d + 1) 120 2 [some (.ref 12), some (.ref (a + 1)), some (.int x2), some (.int (x3 + 1)), none] [] w7 r w') ∧ (v6 = 0 → (r = .inl (some (.int 0)) ∧ w' = w7))))) ∧ (v3 = ((-1)) → (r = .inl (some (.int 1)) ∧ w' = w))))))) :
    gk_W none (d + 1) 120 2 [some (.ref 12), some (.ref (a + 1)), some (.int x2), some (.int x3), none] [] w r w' := by
  refine gk_W_b 3 (300 < x3) (t := 42) (e := 9) (l1 := [some (.ref 12), some (.ref (a + 1)), some (.int x2), some (.int x3), none]) (st1 := []) rfl (fun hp1 => ?_) (fun hp1 => ?_)
  · have h := h.1 hp1
    refine gk_W_s 1 (pc1 := 43) (l1 := [some (.ref 12), some (.ref (a + 1)), some (.int x2), some (.int x3), none]) (st1 := [.int 0]) rfl ?_
    obtain ⟨rfl, rfl⟩ := h
    exact gk_W_r (i := .ireturn) rfl rfl rfl
  · have h := h.2 hp1
    refine gk_W_s 2 (pc1 := 11) (l1 := [some (.ref 12), some (.ref (a + 1)), some (.int x2), some (.int x3), none]) (st1 := [.int x2, .ref (a + 1)]) rfl ?_
    obtain ⟨v3, hE2, h⟩ := h
    refine gk_W_c (i := .invokestatic 130) [.int v3] 14 rfl rfl rfl hE2 rfl rfl ?_
    refine gk_W_b 4 (¬ v3 = ((-1))) (t := 24) (e := 22) (l1 := [some (.ref 12), some (.ref (a + 1)), some (.int x2), some (.int x3), some (.int v3)]) (st1 := []) rfl (fun hp4 => ?_) (fun hp4 => ?_)
    · have h := h.1 hp4
      refine gk_W_s 3 (pc1 := 28) (l1 := [some (.ref 12), some (.ref (a + 1)), some (.int x2), some (.int x3), some (.int v3)]) (st1 := [.int v3, .ref (a + 1), .ref 12]) rfl ?_
      obtain ⟨v6, w7, hE5, hS8, h⟩ := h
      refine gk_W_c (i := .invokevirtual 66) [.int v6] 31 rfl rfl (c_v (a := 11) hS ly_11 rfl rfl (Nat.le_of_ble_eq_true rfl)) hE5 rfl rfl ?_
      refine gk_W_b 1 (¬ v6 = 0) (t := 36) (e := 34) (l1 := [some (.ref 12), some (.ref (a + 1)), some (.int x2), some (.int x3), some (.int v3)]) (st1 := []) rfl (fun hp9 => ?_) (fun hp9 => ?_)
      · have h := h.1 hp9
        refine gk_W_s 2 (pc1 := 2) (l1 := [some (.ref 12), some (.ref (a + 1)), some (.int x2), some (.int (x3 + 1)), some (.int v3)]) (st1 := []) rfl ?_
        exact gk_W_le (gk_le_s (gk_le_s (gk_le_s (gk_le_s (gk_le_n (gk_le_0)))))) h
      · have h := h.2 (Decidable.not_not.mp hp9)
        refine gk_W_s 1 (pc1 := 35) (l1 := [some (.ref 12), some (.ref (a + 1)), some (.int x2), some (.int x3), some (.int v3)]) (st1 := [.int 0]) rfl ?_
        obtain ⟨rfl, rfl⟩ := h
        exact gk_W_r (i := .ireturn) rfl rfl rfl
    · have h := h.2 (Decidable.not_not.mp hp4)
      refine gk_W_s 1 (pc1 := 23) (l1 := [some (.ref 12), some (.ref (a + 1)), some (.int x2), some (.int x3), some (.int v3)]) (st1 := [.int 1]) rfl ?_
      obtain ⟨rfl, rfl⟩ := h
      exact gk_W_r (i := .ireturn) rfl rfl rfl
/-- GrammarDesk$GreibachMaker.nextLead(LGrammarDesk$RuleSet;I)I, at 0 -/
theorem sg_121_0 {d : Nat} {rr : List gk_S} {w w' : gk_Wd} {r : gk_Res} (hS : gk_Sh rr w) {a : Nat} (haa : gk_rs a) (x1 : Int32)
    (h : gk_W none (d + 2) 121 7 [some (.ref (a + 1)), some (.int x1), some (.int ((-1))), some (.int ((-1))), some (.int 0)] [] w r w') :
    gk_W none (d + 2) 121 0 [some (.ref (a + 1)), some (.int x1), none, none, none] [] w r w' := by
  refine gk_W_s 6 (pc1 := 7) (l1 := [some (.ref (a + 1)), some (.int x1), some (.int ((-1))), some (.int ((-1))), some (.int 0)]) (st1 := []) rfl ?_
  exact h
/-- GrammarDesk$GreibachMaker.nextLead(LGrammarDesk$RuleSet;I)I, at 7 -/
theorem sg_121_7 {d : Nat} {rr : List gk_S} {w w' : gk_Wd} {r : gk_Res} (hS : gk_Sh rr w) {a : Nat} (haa : gk_rs a) (x1 : Int32) (x2 : Int32) (x3 : Int32) (x4 : Int32)
    (h : (((f_13 w a) ≤ x4 → ((x2 = ((-1)) → (r = .inl (some (.int x3)) ∧ w' = w)) ∧ (¬ (x2 = ((-1))) → (r = .inl (some (.int x2)) ∧ w' = w)))) ∧ (¬ ((f_13 w a) ≤ x4) → ((gk_out x4 60 = false) ∧ (((f_42 (f_23 w a x4)) = 0 → gk_W none (d + 2) 121 7 [some (.ref (a + 1)), some (.int x1), some (.int x2), some (.int x3), some (.int (x4 + 1))] [] w r w') ∧ (¬ ((f_42 (f_23 w a x4)) = 0) → ((gk_out x4 60 = false) ∧ (((f_36 x1 (f_25 (f_23 w a x4))) = 0 → ((¬ x3 = ((-1)) → gk_W none (d + 2) 121 7 [some (.ref (a + 1)), some (.int x1), some (.int x2), some (.int x3), some (.int (x4 + 1))] [] w r w') ∧ (x3 = ((-1)) → gk_W none (d + 2) 121 7 [some (.ref (a + 1)), some (.int x1), some (.int x2), some (.int x4), some (.int (x4 + 1))] [] w r w'))) ∧ (¬ ((f_36 x1 (f_25 (f_23 w a x4))) = 0) → gk_W none (d + 2) 121 7 [some (.ref (a + 1)), some (.int x1), some (.int x4), some (.int x3), some (.int (x4 + 1))] [] w r w'))))))))) :
    gk_W none (d + 2) 121 7 [some (.ref (a + 1)), some (.int x1), some (.int x2), some (.int x3), some (.int x4)] [] w r w' := by
  refine gk_W_s 2 (pc1 := 10) (l1 := [some (.ref (a + 1)), some (.int x1), some (.int x2), some (.int x3), some (.int x4)]) (st1 := [.ref (a + 1), .int x4]) rfl ?_
  refine gk_W_c (i := .invokevirtual 69) [.int (f_13 w a), .int x4] 13 rfl rfl (c_v (a := a) hS haa.1 rfl rfl (Nat.le_of_ble_eq_true rfl)) (f_13_E hS ⟨haa.1, haa.2⟩) rfl rfl ?_
  refine gk_W_b 1 ((f_13 w a) ≤ x4) (t := 64) (e := 16) (l1 := [some (.ref (a + 1)), some (.int x1), some (.int x2), some (.int x3), some (.int x4)]) (st1 := []) rfl (fun hp1 => ?_) (fun hp1 => ?_)
  · have h := h.1 hp1
    refine gk_W_b 3 (x2 = ((-1))) (t := 73) (e := 69) (l1 := [some (.ref (a + 1)), some (.int x1), some (.int x2), some (.int x3), some (.int x4)]) (st1 := []) rfl (fun hp2 => ?_) (fun hp2 => ?_)
    · have h := h.1 hp2
      refine gk_W_s 1 (pc1 := 74) (l1 := [some (.ref (a + 1)), some (.int x1), some (.int x2), some (.int x3), some (.int x4)]) (st1 := [.int x3]) rfl ?_
      obtain ⟨rfl, rfl⟩ := h
      exact gk_W_r (i := .ireturn) rfl rfl rfl
    · have h := h.2 hp2
      refine gk_W_s 2 (pc1 := 74) (l1 := [some (.ref (a + 1)), some (.int x1), some (.int x2), some (.int x3), some (.int x4)]) (st1 := [.int x2]) rfl ?_
      obtain ⟨rfl, rfl⟩ := h
      exact gk_W_r (i := .ireturn) rfl rfl rfl
  · have h := h.2 hp1
    refine gk_W_s 2 (pc1 := 19) (l1 := [some (.ref (a + 1)), some (.int x1), some (.int x2), some (.int x3), some (.int x4)]) (st1 := [.int x4, .ref (a + 1)]) rfl ?_
    obtain ⟨hb3, h⟩ := h
    refine gk_W_c (i := .invokevirtual 72) [.long (f_23 w a x4)] 22 rfl rfl (c_v (a := a) hS haa.1 rfl rfl (Nat.le_of_ble_eq_true rfl)) (f_23_E hS ⟨haa.1, haa.2⟩ x4 hb3) rfl rfl ?_
    refine gk_W_c (i := .invokestatic 133) [.int (f_42 (f_23 w a x4))] 25 rfl rfl rfl (f_42_E (f_23 w a x4)) rfl rfl ?_
    refine gk_W_b 1 ((f_42 (f_23 w a x4)) = 0) (t := 58) (e := 28) (l1 := [some (.ref (a + 1)), some (.int x1), some (.int x2), some (.int x3), some (.int x4)]) (st1 := []) rfl (fun hp4 => ?_) (fun hp4 => ?_)
    · have h := h.1 hp4
      refine gk_W_s 2 (pc1 := 7) (l1 := [some (.ref (a + 1)), some (.int x1), some (.int x2), some (.int x3), some (.int (x4 + 1))]) (st1 := []) rfl ?_
      exact h
    · have h := h.2 hp4
      refine gk_W_s 3 (pc1 := 32) (l1 := [some (.ref (a + 1)), some (.int x1), some (.int x2), some (.int x3), some (.int x4)]) (st1 := [.int x4, .ref (a + 1), .int x1]) rfl ?_
      obtain ⟨hb5, h⟩ := h
      refine gk_W_c (i := .invokevirtual 72) [.long (f_23 w a x4), .int x1] 35 rfl rfl (c_v (a := a) hS haa.1 rfl rfl (Nat.le_of_ble_eq_true rfl)) (f_23_E hS ⟨haa.1, haa.2⟩ x4 hb5) rfl rfl ?_
      refine gk_W_c (i := .invokestatic 76) [.int (f_25 (f_23 w a x4)), .int x1] 38 rfl rfl rfl (f_25_E (f_23 w a x4)) rfl rfl ?_
      refine gk_W_c (i := .invokestatic 45) [.int (f_36 x1 (f_25 (f_23 w a x4)))] 41 rfl rfl rfl (f_36_E x1 (f_25 (f_23 w a x4))) rfl rfl ?_
      refine gk_W_b 1 ((f_36 x1 (f_25 (f_23 w a x4))) = 0) (t := 50) (e := 44) (l1 := [some (.ref (a + 1)), some (.int x1), some (.int x2), some (.int x3), some (.int x4)]) (st1 := []) rfl (fun hp6 => ?_) (fun hp6 => ?_)
      · have h := h.1 hp6
        refine gk_W_b 3 (¬ x3 = ((-1))) (t := 58) (e := 55) (l1 := [some (.ref (a + 1)), some (.int x1), some (.int x2), some (.int x3), some (.int x4)]) (st1 := []) rfl (fun hp7 => ?_) (fun hp7 => ?_)
        · have h := h.1 hp7
          refine gk_W_s 2 (pc1 := 7) (l1 := [some (.ref (a + 1)), some (.int x1), some (.int x2), some (.int x3), some (.int (x4 + 1))]) (st1 := []) rfl ?_
          exact h
        · have h := h.2 (Decidable.not_not.mp hp7)
          refine gk_W_s 4 (pc1 := 7) (l1 := [some (.ref (a + 1)), some (.int x1), some (.int x2), some (.int x4), some (.int (x4 + 1))]) (st1 := []) rfl ?_
          exact h
      · have h := h.2 hp6
        refine gk_W_s 5 (pc1 := 7) (l1 := [some (.ref (a + 1)), some (.int x1), some (.int x4), some (.int x3), some (.int (x4 + 1))]) (st1 := []) rfl ?_
        exact h
/-- GrammarDesk$GreibachMaker.nameInnerLetters(LGrammarDesk$RuleSet;)Z, at 0 -/
theorem sg_122_0 {d : Nat} {rr : List gk_S} {w w' : gk_Wd} {r : gk_Res} (hS : gk_Sh rr w) {a : Nat} (haa : gk_rs a)
    (h : gk_W none (d + 1) 122 2 [some (.ref 12), some (.ref (a + 1)), some (.int 0), none] [] w r w') :
    gk_W none (d + 1) 122 0 [some (.ref 12), some (.ref (a + 1)), none, none] [] w r w' := by
  refine gk_W_s 2 (pc1 := 2) (l1 := [some (.ref 12), some (.ref (a + 1)), some (.int 0), none]) (st1 := []) rfl ?_
  exact h
/-- GrammarDesk$GreibachMaker.nameInnerLetters(LGrammarDesk$RuleSet;)Z, at 2 -/
theorem sg_122_2 {d : Nat} {rr : List gk_S} {w w' : gk_Wd} {r : gk_Res} (hS : gk_Sh rr w) {a : Nat} (haa : gk_rs a) (x2 : Int32)
    (h : ((6 ≤ x2 → (r = .inl (some (.int 1)) ∧ w' = w)) ∧ (¬ (6 ≤ x2) → (∃ (v3 : Int32), gk_E d 123 [.ref (a + 1), .int (16 + x2)] w (.inl (some (.int v3))) w ∧ ((v3 = 0 → gk_W none (d + 1) 122 2 [some (.ref 12), some (.ref (a + 1)), some (.int (x2 + 1)), none] [] w r w') ∧ (¬ (v3 = 0) → (∃ (v6 : Int32), ∃ (w7 : gk_Wd), gk_E d 125 [.ref 12, .ref (a + 1), .int (16 + x2)] w (.inl (some (.int v6))) w7 ∧ gk_Sh rr w7 ∧ ((¬ v6 = 0 → gk_W none (d + 1) 122 2 [some (.ref 12), some (.ref (a + 1)), some (.int (x2 + 1)), none] [] w7 r w') ∧ (v6 = 0 → (r = .inl (some (.int 0)) ∧ w' = w7)))))))))) :
    gk_W none (d + 1) 122 2 [some (.ref 12), some (.ref (a + 1)), some (.int x2), none] [] w r w' := by
  refine gk_W_b 3 (6 ≤ x2) (t := 38) (e := 8) (l1 := [some (.ref 12), some (.ref (a + 1)), some (.int x2), none]) (st1 := []) rfl (fun hp1 => ?_) (fun hp1 => ?_)
  · have h := h.1 hp1
    refine gk_W_s 1 (pc1 := 39) (l1 := [some (.ref 12), some (.ref (a + 1)), some (.int x2), none]) (st1 := [.int 1]) rfl ?_
    obtain ⟨rfl, rfl⟩ := h
    exact gk_W_r (i := .ireturn) rfl rfl rfl
  · have h := h.2 hp1
    refine gk_W_s 6 (pc1 := 15) (l1 := [some (.ref 12), some (.ref (a + 1)), some (.int x2), some (.int (16 + x2))]) (st1 := [.int (16 + x2), .ref (a + 1)]) rfl ?_
    obtain ⟨v3, hE2, h⟩ := h
    refine gk_W_c (i := .invokestatic 136) [.int v3] 18 rfl rfl rfl hE2 rfl rfl ?_
    refine gk_W_b 1 (v3 = 0) (t := 32) (e := 21) (l1 := [some (.ref 12), some (.ref (a + 1)), some (.int x2), some (.int (16 + x2))]) (st1 := []) rfl (fun hp4 => ?_) (fun hp4 => ?_)
    · have h := h.1 hp4
      refine gk_W_s 2 (pc1 := 2) (l1 := [some (.ref 12), some (.ref (a + 1)), some (.int (x2 + 1)), some (.int (16 + x2))]) (st1 := []) rfl ?_
      exact gk_W_le (gk_le_s (gk_le_s (gk_le_s (gk_le_n (gk_le_0))))) h
    · have h := h.2 hp4
      refine gk_W_s 3 (pc1 := 24) (l1 := [some (.ref 12), some (.ref (a + 1)), some (.int x2), some (.int (16 + x2))]) (st1 := [.int (16 + x2), .ref (a + 1), .ref 12]) rfl ?_
      obtain ⟨v6, w7, hE5, hS8, h⟩ := h
      refine gk_W_c (i := .invokevirtual 139) [.int v6] 27 rfl rfl (c_v (a := 11) hS ly_11 rfl rfl (Nat.le_of_ble_eq_true rfl)) hE5 rfl rfl ?_
      refine gk_W_b 1 (¬ v6 = 0) (t := 32) (e := 30) (l1 := [some (.ref 12), some (.ref (a + 1)), some (.int x2), some (.int (16 + x2))]) (st1 := []) rfl (fun hp9 => ?_) (fun hp9 => ?_)
      · have h := h.1 hp9
        refine gk_W_s 2 (pc1 := 2) (l1 := [some (.ref 12), some (.ref (a + 1)), some (.int (x2 + 1)), some (.int (16 + x2))]) (st1 := []) rfl ?_
        exact gk_W_le (gk_le_s (gk_le_s (gk_le_s (gk_le_n (gk_le_0))))) h
      · have h := h.2 (Decidable.not_not.mp hp9)
        refine gk_W_s 1 (pc1 := 31) (l1 := [some (.ref 12), some (.ref (a + 1)), some (.int x2), some (.int (16 + x2))]) (st1 := [.int 0]) rfl ?_
        obtain ⟨rfl, rfl⟩ := h
        exact gk_W_r (i := .ireturn) rfl rfl rfl
/-- GrammarDesk$GreibachMaker.standsInside(LGrammarDesk$RuleSet;I)Z, at 0 -/
theorem sg_123_0 {d : Nat} {rr : List gk_S} {w w' : gk_Wd} {r : gk_Res} (hS : gk_Sh rr w) {a : Nat} (haa : gk_rs a) (x1 : Int32)
    (h : gk_W none (d + 1) 123 2 [some (.ref (a + 1)), some (.int x1), some (.int 0)] [] w r w') :
    gk_W none (d + 1) 123 0 [some (.ref (a + 1)), some (.int x1), none] [] w r w' := by
  refine gk_W_s 2 (pc1 := 2) (l1 := [some (.ref (a + 1)), some (.int x1), some (.int 0)]) (st1 := []) rfl ?_
  exact h
/-- GrammarDesk$GreibachMaker.standsInside(LGrammarDesk$RuleSet;I)Z, at 2 -/
theorem sg_123_2 {d : Nat} {rr : List gk_S} {w w' : gk_Wd} {r : gk_Res} (hS : gk_Sh rr w) {a : Nat} (haa : gk_rs a) (x1 : Int32) (x2 : Int32)
    (h : (((f_13 w a) ≤ x2 → (r = .inl (some (.int 0)) ∧ w' = w)) ∧ (¬ ((f_13 w a) ≤ x2) → ((gk_out x2 60 = false) ∧ (∃ (v4 : Int32), gk_E d 124 [.long (f_23 w a x2), .int x1] w (.inl (some (.int v4))) w ∧ ((v4 = 0 → gk_W none (d + 1) 123 2 [some (.ref (a + 1)), some (.int x1), some (.int (x2 + 1))] [] w r w') ∧ (¬ (v4 = 0) → (r = .inl (some (.int 1)) ∧ w' = w)))))))) :
    gk_W none (d + 1) 123 2 [some (.ref (a + 1)), some (.int x1), some (.int x2)] [] w r w' := by
  refine gk_W_s 2 (pc1 := 4) (l1 := [some (.ref (a + 1)), some (.int x1), some (.int x2)]) (st1 := [.ref (a + 1), .int x2]) rfl ?_
  refine gk_W_c (i := .invokevirtual 69) [.int (f_13 w a), .int x2] 7 rfl rfl (c_v (a := a) hS haa.1 rfl rfl (Nat.le_of_ble_eq_true rfl)) (f_13_E hS ⟨haa.1, haa.2⟩) rfl rfl ?_
  refine gk_W_b 1 ((f_13 w a) ≤ x2) (t := 30) (e := 10) (l1 := [some (.ref (a + 1)), some (.int x1), some (.int x2)]) (st1 := []) rfl (fun hp1 => ?_) (fun hp1 => ?_)
  · have h := h.1 hp1
    refine gk_W_s 1 (pc1 := 31) (l1 := [some (.ref (a + 1)), some (.int x1), some (.int x2)]) (st1 := [.int 0]) rfl ?_
    obtain ⟨rfl, rfl⟩ := h
    exact gk_W_r (i := .ireturn) rfl rfl rfl
  · have h := h.2 hp1
    refine gk_W_s 2 (pc1 := 12) (l1 := [some (.ref (a + 1)), some (.int x1), some (.int x2)]) (st1 := [.int x2, .ref (a + 1)]) rfl ?_
    obtain ⟨hb2, h⟩ := h
    refine gk_W_c (i := .invokevirtual 72) [.long (f_23 w a x2)] 15 rfl rfl (c_v (a := a) hS haa.1 rfl rfl (Nat.le_of_ble_eq_true rfl)) (f_23_E hS ⟨haa.1, haa.2⟩ x2 hb2) rfl rfl ?_
    refine gk_W_s 1 (pc1 := 16) (l1 := [some (.ref (a + 1)), some (.int x1), some (.int x2)]) (st1 := [.int x1, .long (f_23 w a x2)]) rfl ?_
    obtain ⟨v4, hE3, h⟩ := h
    refine gk_W_c (i := .invokestatic 142) [.int v4] 19 rfl rfl rfl hE3 rfl rfl ?_
    refine gk_W_b 1 (v4 = 0) (t := 24) (e := 22) (l1 := [some (.ref (a + 1)), some (.int x1), some (.int x2)]) (st1 := []) rfl (fun hp5 => ?_) (fun hp5 => ?_)
    · have h := h.1 hp5
      refine gk_W_s 2 (pc1 := 2) (l1 := [some (.ref (a + 1)), some (.int x1), some (.int (x2 + 1))]) (st1 := []) rfl ?_
      exact h
    · have h := h.2 hp5
      refine gk_W_s 1 (pc1 := 23) (l1 := [some (.ref (a + 1)), some (.int x1), some (.int x2)]) (st1 := [.int 1]) rfl ?_
      obtain ⟨rfl, rfl⟩ := h
      exact gk_W_r (i := .ireturn) rfl rfl rfl
/-- GrammarDesk$GreibachMaker.nameLetter(LGrammarDesk$RuleSet;I)Z, at 0 -/
theorem sg_125_0 {d : Nat} {rr : List gk_S} {w w' : gk_Wd} {r : gk_Res} (hS : gk_Sh rr w) {a : Nat} (haa : gk_rs a) (x2 : Int32)
    (h : (∃ (v2 : Int32), gk_E (d + 1) 117 [.ref (a + 1)] w (.inl (some (.int v2))) w ∧ ((¬ v2 = ((-1)) → (∃ (w5 : gk_Wd), gk_E (d + 1) 20 [.ref 13, .ref (a + 1)] w (.inl none) w5 ∧ gk_Sh rr w5 ∧ (∃ (w8 : gk_Wd), gk_E (d + 1) 17 [.ref (a + 1)] w5 (.inl none) w8 ∧ gk_Sh rr w8 ∧ gk_W none (d + 2) 125 27 [some (.ref 12), some (.ref (a + 1)), some (.int x2), some (.int v2), some (.int 0)] [] w8 r w'))) ∧ (v2 = ((-1)) → (r = .inl (some (.int 0)) ∧ w' = w))))) :
    gk_W none (d + 2) 125 0 [some (.ref 12), some (.ref (a + 1)), some (.int x2), none, none] [] w r w' := by
  refine gk_W_s 1 (pc1 := 1) (l1 := [some (.ref 12), some (.ref (a + 1)), some (.int x2), none, none]) (st1 := [.ref (a + 1)]) rfl ?_
  obtain ⟨v2, hE1, h⟩ := h
  refine gk_W_c (i := .invokevirtual 110) [.int v2] 4 rfl rfl (c_v (a := a) hS haa.1 rfl rfl (Nat.le_of_ble_eq_true rfl)) hE1 rfl rfl ?_
  refine gk_W_b 4 (¬ v2 = ((-1))) (t := 12) (e := 10) (l1 := [some (.ref 12), some (.ref (a + 1)), some (.int x2), some (.int v2), none]) (st1 := []) rfl (fun hp3 => ?_) (fun hp3 => ?_)
  · have h := h.1 hp3
    refine gk_W_s 1 (pc1 := 13) (l1 := [some (.ref 12), some (.ref (a + 1)), some (.int x2), some (.int v2), none]) (st1 := [.ref 12]) rfl ?_
    refine gk_W_h (i := .getfield 18) 16 rfl rfl (h_gr (a := 11) (k := 1) (m := 13) hS ly_11 rfl) rfl ?_
    refine gk_W_s 1 (pc1 := 17) (l1 := [some (.ref 12), some (.ref (a + 1)), some (.int x2), some (.int v2), none]) (st1 := [.ref (a + 1), .ref 13]) rfl ?_
    obtain ⟨w5, hE4, hS6, h⟩ := h
    refine gk_W_c (i := .invokevirtual 91) [] 20 rfl rfl (c_v (a := 12) hS ly_12 rfl rfl (Nat.le_of_ble_eq_true rfl)) hE4 rfl rfl ?_
    refine gk_W_s 1 (pc1 := 21) (l1 := [some (.ref 12), some (.ref (a + 1)), some (.int x2), some (.int v2), none]) (st1 := [.ref (a + 1)]) rfl ?_
    obtain ⟨w8, hE7, hS9, h⟩ := h
    refine gk_W_c (i := .invokevirtual 146) [] 24 rfl rfl (c_v (a := a) hS6 haa.1 rfl rfl (Nat.le_of_ble_eq_true rfl)) hE7 rfl rfl ?_
    refine gk_W_s 2 (pc1 := 27) (l1 := [some (.ref 12), some (.ref (a + 1)), some (.int x2), some (.int v2), some (.int 0)]) (st1 := []) rfl ?_
    exact h
  · have h := h.2 (Decidable.not_not.mp hp3)
    refine gk_W_s 1 (pc1 := 11) (l1 := [some (.ref 12), some (.ref (a + 1)), some (.int x2), some (.int v2), none]) (st1 := [.int 0]) rfl ?_
    obtain ⟨rfl, rfl⟩ := h
    exact gk_W_r (i := .ireturn) rfl rfl rfl
/-- GrammarDesk$GreibachMaker.nameLetter(LGrammarDesk$RuleSet;I)Z, at 27 -/
theorem sg_125_27 {d : Nat} {rr : List gk_S} {w w' : gk_Wd} {r : gk_Res} (hS : gk_Sh rr w) {a : Nat} (haa : gk_rs a) (x2 : Int32) (x3 : Int32) (x4 : Int32)
    (h : (((f_13 w 12) ≤ x4 → (∃ (v3 : Int32), ∃ (w4 : gk_Wd), gk_E (d + 1) 94 [.ref (a + 1), .long (f_91 (f_90 x3) x2)] w (.inl (some (.int v3))) w4 ∧ gk_Sh rr w4 ∧ (fits .boolean (.int v3) = true ∧ r = .inl (some (.int v3)) ∧ w' = w4))) ∧ (¬ ((f_13 w 12) ≤ x4) → ((gk_out x4 60 = false) ∧ (∃ (v8 : Int64), gk_E (d + 1) 126 [.long (f_23 w 12 x4), .int x2, .int x3] w (.inl (some (.long v8))) w ∧ (∃ (v10 : Int32), ∃ (w11 : gk_Wd), gk_E (d + 1) 94 [.ref (a + 1), .long v8] w (.inl (some (.int v10))) w11 ∧ gk_Sh rr w11 ∧ ((¬ v10 = 0 → gk_W none (d + 2) 125 27 [some (.ref 12), some (.ref (a + 1)), some (.int x2), some (.int x3), some (.int (x4 + 1))] [] w11 r w') ∧ (v10 = 0 → (r = .inl (some (.int 0)) ∧ w' = w11))))))))) :
    gk_W none (d + 2) 125 27 [some (.ref 12), some (.ref (a + 1)), some (.int x2), some (.int x3), some (.int x4)] [] w r w' := by
  refine gk_W_s 2 (pc1 := 30) (l1 := [some (.ref 12), some (.ref (a + 1)), some (.int x2), some (.int x3), some (.int x4)]) (st1 := [.ref 12, .int x4]) rfl ?_
  refine gk_W_h (i := .getfield 18) 33 rfl rfl (h_gr (a := 11) (k := 1) (m := 13) hS ly_11 rfl) rfl ?_
  refine gk_W_c (i := .invokevirtual 69) [.int (f_13 w 12), .int x4] 36 rfl rfl (c_v (a := 12) hS ly_12 rfl rfl (Nat.le_of_ble_eq_true rfl)) (f_13_E hS rs_12) rfl rfl ?_
  refine gk_W_b 1 ((f_13 w 12) ≤ x4) (t := 68) (e := 39) (l1 := [some (.ref 12), some (.ref (a + 1)), some (.int x2), some (.int x3), some (.int x4)]) (st1 := []) rfl (fun hp1 => ?_) (fun hp1 => ?_)
  · have h := h.1 hp1
    refine gk_W_s 2 (pc1 := 70) (l1 := [some (.ref 12), some (.ref (a + 1)), some (.int x2), some (.int x3), some (.int x4)]) (st1 := [.int x3, .ref (a + 1)]) rfl ?_
    refine gk_W_c (i := .invokestatic 127) [.long (f_90 x3), .ref (a + 1)] 73 rfl rfl rfl (f_90_E x3) rfl rfl ?_
    refine gk_W_s 1 (pc1 := 74) (l1 := [some (.ref 12), some (.ref (a + 1)), some (.int x2), some (.int x3), some (.int x4)]) (st1 := [.int x2, .long (f_90 x3), .ref (a + 1)]) rfl ?_
    refine gk_W_c (i := .invokestatic 120) [.long (f_91 (f_90 x3) x2), .ref (a + 1)] 77 rfl rfl rfl (f_91_E (f_90 x3) x2) rfl rfl ?_
    obtain ⟨v3, w4, hE2, hS5, h⟩ := h
    refine gk_W_c (i := .invokevirtual 103) [.int v3] 80 rfl rfl (c_v (a := a) hS haa.1 rfl rfl (Nat.le_of_ble_eq_true rfl)) hE2 rfl rfl ?_
    obtain ⟨hf, rfl, rfl⟩ := h
    exact gk_W_r (i := .ireturn) rfl rfl (gk_ret_f hf)
  · have h := h.2 hp1
    refine gk_W_s 2 (pc1 := 41) (l1 := [some (.ref 12), some (.ref (a + 1)), some (.int x2), some (.int x3), some (.int x4)]) (st1 := [.ref 12, .ref (a + 1)]) rfl ?_
    refine gk_W_h (i := .getfield 18) 44 rfl rfl (h_gr (a := 11) (k := 1) (m := 13) hS ly_11 rfl) rfl ?_
    refine gk_W_s 1 (pc1 := 46) (l1 := [some (.ref 12), some (.ref (a + 1)), some (.int x2), some (.int x3), some (.int x4)]) (st1 := [.int x4, .ref 13, .ref (a + 1)]) rfl ?_
    obtain ⟨hb6, h⟩ := h
    refine gk_W_c (i := .invokevirtual 72) [.long (f_23 w 12 x4), .ref (a + 1)] 49 rfl rfl (c_v (a := 12) hS ly_12 rfl rfl (Nat.le_of_ble_eq_true rfl)) (f_23_E hS rs_12 x4 hb6) rfl rfl ?_
    refine gk_W_s 2 (pc1 := 51) (l1 := [some (.ref 12), some (.ref (a + 1)), some (.int x2), some (.int x3), some (.int x4)]) (st1 := [.int x3, .int x2, .long (f_23 w 12 x4), .ref (a + 1)]) rfl ?_
    obtain ⟨v8, hE7, h⟩ := h
    refine gk_W_c (i := .invokestatic 149) [.long v8, .ref (a + 1)] 54 rfl rfl rfl hE7 rfl rfl ?_
    obtain ⟨v10, w11, hE9, hS12, h⟩ := h
    refine gk_W_c (i := .invokevirtual 103) [.int v10] 57 rfl rfl (c_v (a := a) hS haa.1 rfl rfl (Nat.le_of_ble_eq_true rfl)) hE9 rfl rfl ?_
    refine gk_W_b 1 (¬ v10 = 0) (t := 62) (e := 60) (l1 := [some (.ref 12), some (.ref (a + 1)), some (.int x2), some (.int x3), some (.int x4)]) (st1 := []) rfl (fun hp13 => ?_) (fun hp13 => ?_)
    · have h := h.1 hp13
      refine gk_W_s 2 (pc1 := 27) (l1 := [some (.ref 12), some (.ref (a + 1)), some (.int x2), some (.int x3), some (.int (x4 + 1))]) (st1 := []) rfl ?_
      exact h
    · have h := h.2 (Decidable.not_not.mp hp13)
      refine gk_W_s 1 (pc1 := 61) (l1 := [some (.ref 12), some (.ref (a + 1)), some (.int x2), some (.int x3), some (.int x4)]) (st1 := [.int 0]) rfl ?_
      obtain ⟨rfl, rfl⟩ := h
      exact gk_W_r (i := .ireturn) rfl rfl rfl
