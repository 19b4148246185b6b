/-! printed by wip/whole/sym.py: from cut to cut: 14 removeAt, 17 empty, 19 sameAs, 20 copyFrom, 30 removeUseless, 31 fruitful, 32 producing, 33 variablesOf, 34 hasLetter, 35 reached, 41 isGreibach, 46 close, 50 nullable, 85 faultyPlace, 88 empty, 89 toRule, 92 has, 93 placeOf, 94 put, 97 removeEmpty, 98 addShorter, 99 without, 102 removeUnits, 103 findRenamings, 104 giveToRenamed, 109 leftSides, 113 appendFrom, 117 freeVariable, 119 remove, 124 hasBehindFirst, 126 renamedBehindFirst -/
/-- GrammarDesk$RuleSet.removeAt(I)V, at 0 -/
theorem sg_14_0 {d : Nat} {rr : List gk_S} {w w' : gk_Wd} {r : gk_Res} (hS : gk_Sh rr w) {a : Nat} (haa : gk_rs a) (x1 : Int32)
    (h : ((¬ (x1 + 1) < 0 ∧ ¬ x1 < 0 ∧ ¬ (((w_i w a 1) - x1) - 1) < 0 ∧ (x1 + 1).toNatClampNeg + (((w_i w a 1) - x1) - 1).toNatClampNeg ≤ 60 ∧ x1.toNatClampNeg + (((w_i w a 1) - x1) - 1).toNatClampNeg ≤ 60) ∧ (r = .inl none ∧ w' = w_si (w_sl w (a + 1) (gk_cpy (w_l w (a + 1)) (w_l w (a + 1)) (x1 + 1).toNatClampNeg x1.toNatClampNeg (((w_i w a 1) - x1) - 1).toNatClampNeg)) a 1 ((w_i (w_sl w (a + 1) (gk_cpy (w_l w (a + 1)) (w_l w (a + 1)) (x1 + 1).toNatClampNeg x1.toNatClampNeg (((w_i w a 1) - x1) - 1).toNatClampNeg)) a 1) - 1)))) :
    gk_W none d 14 0 [some (.ref (a + 1)), some (.int x1)] [] w r w' := by
  refine gk_W_s 1 (pc1 := 1) (l1 := [some (.ref (a + 1)), some (.int x1)]) (st1 := [.ref (a + 1)]) rfl ?_
  refine gk_W_h (i := .getfield 11) 4 rfl rfl (h_gr (a := a) (k := 0) (m := (a + 1 + 1)) hS haa.1 rfl) rfl ?_
  refine gk_W_s 4 (pc1 := 8) (l1 := [some (.ref (a + 1)), some (.int x1)]) (st1 := [.ref (a + 1), .int (x1 + 1), .ref (a + 1 + 1)]) rfl ?_
  refine gk_W_h (i := .getfield 11) 11 rfl rfl (h_gr (a := a) (k := 0) (m := (a + 1 + 1)) hS haa.1 rfl) rfl ?_
  refine gk_W_s 2 (pc1 := 13) (l1 := [some (.ref (a + 1)), some (.int x1)]) (st1 := [.ref (a + 1), .int x1, .ref (a + 1 + 1), .int (x1 + 1), .ref (a + 1 + 1)]) rfl ?_
  refine gk_W_h (i := .getfield 15) 16 rfl rfl (h_gi (a := a) (k := 1) hS haa.1 rfl) rfl ?_
  refine gk_W_s 4 (pc1 := 20) (l1 := [some (.ref (a + 1)), some (.int x1)]) (st1 := [.int (((w_i w a 1) - x1) - 1), .int x1, .ref (a + 1 + 1), .int (x1 + 1), .ref (a + 1 + 1)]) rfl ?_
  obtain ⟨hb1, h⟩ := h
  refine gk_W_h (i := .invokestatic 27) 23 rfl rfl (h_cpy (a := a + 1) (b := a + 1) (sp := x1 + 1) (dp := x1) (m := ((w_i w a 1) - x1) - 1) hS haa.2 haa.2 hb1 (Nat.le_of_ble_eq_true rfl)) rfl ?_
  refine gk_W_s 2 (pc1 := 25) (l1 := [some (.ref (a + 1)), some (.int x1)]) (st1 := [.ref (a + 1), .ref (a + 1)]) rfl ?_
  refine gk_W_h (i := .getfield 15) 28 rfl rfl (h_gi (a := a) (k := 1) (sh_cpy hS haa.2 haa.2 ⟨hb1.2.2.2.1, hb1.2.2.2.2⟩) haa.1 rfl) rfl ?_
  refine gk_W_s 2 (pc1 := 30) (l1 := [some (.ref (a + 1)), some (.int x1)]) (st1 := [.int ((w_i (w_sl w (a + 1) (gk_cpy (w_l w (a + 1)) (w_l w (a + 1)) (x1 + 1).toNatClampNeg x1.toNatClampNeg (((w_i w a 1) - x1) - 1).toNatClampNeg)) a 1) - 1), .ref (a + 1)]) rfl ?_
  refine gk_W_h (i := .putfield 15) 33 rfl rfl (h_pi (a := a) (k := 1) (x := (w_i (w_sl w (a + 1) (gk_cpy (w_l w (a + 1)) (w_l w (a + 1)) (x1 + 1).toNatClampNeg x1.toNatClampNeg (((w_i w a 1) - x1) - 1).toNatClampNeg)) a 1) - 1) (sh_cpy hS haa.2 haa.2 ⟨hb1.2.2.2.1, hb1.2.2.2.2⟩) haa.1 rfl rfl) rfl ?_
  obtain ⟨rfl, rfl⟩ := h
  exact gk_W_r (i := .return_) rfl rfl rfl
/-- GrammarDesk$RuleSet.empty()V, at 0 -/
theorem sg_17_0 {d : Nat} {rr : List gk_S} {w w' : gk_Wd} {r : gk_Res} (hS : gk_Sh rr w) {a : Nat} (haa : gk_rs a)
    (h : (r = .inl none ∧ w' = w_si w a 1 0)) :
    gk_W none d 17 0 [some (.ref (a + 1))] [] w r w' := by
  refine gk_W_s 2 (pc1 := 2) (l1 := [some (.ref (a + 1))]) (st1 := [.int 0, .ref (a + 1)]) rfl ?_
  refine gk_W_h (i := .putfield 15) 5 rfl rfl (h_pi (a := a) (k := 1) (x := 0) hS haa.1 rfl rfl) rfl ?_
  obtain ⟨rfl, rfl⟩ := h
  exact gk_W_r (i := .return_) rfl rfl rfl
/-- GrammarDesk$RuleSet.sameAs(LGrammarDesk$RuleSet;)Z, at 0 -/
theorem sg_19_0 {d : Nat} {rr : List gk_S} {w w' : gk_Wd} {r : gk_Res} (hS : gk_Sh rr w) {a : Nat} {b : Nat} (haa : gk_rs a) (hab : gk_rs b)
    (h : (((w_i w a 1) = (w_i w b 1) → gk_W none d 19 15 [some (.ref (a + 1)), some (.ref (b + 1)), some (.int 0)] [] w r w') ∧ (¬ ((w_i w a 1) = (w_i w b 1)) → (r = .inl (some (.int 0)) ∧ w' = w)))) :
    gk_W none d 19 0 [some (.ref (a + 1)), some (.ref (b + 1)), none] [] w r w' := by
  refine gk_W_s 1 (pc1 := 1) (l1 := [some (.ref (a + 1)), some (.ref (b + 1)), none]) (st1 := [.ref (a + 1)]) rfl ?_
  refine gk_W_h (i := .getfield 15) 4 rfl rfl (h_gi (a := a) (k := 1) hS haa.1 rfl) rfl ?_
  refine gk_W_s 1 (pc1 := 5) (l1 := [some (.ref (a + 1)), some (.ref (b + 1)), none]) (st1 := [.ref (b + 1), .int (w_i w a 1)]) rfl ?_
  refine gk_W_h (i := .getfield 15) 8 rfl rfl (h_gi (a := b) (k := 1) hS hab.1 rfl) rfl ?_
  refine gk_W_b 1 ((w_i w a 1) = (w_i w b 1)) (t := 13) (e := 11) (l1 := [some (.ref (a + 1)), some (.ref (b + 1)), none]) (st1 := []) rfl (fun hp1 => ?_) (fun hp1 => ?_)
  · have h := h.1 hp1
    refine gk_W_s 2 (pc1 := 15) (l1 := [some (.ref (a + 1)), some (.ref (b + 1)), some (.int 0)]) (st1 := []) rfl ?_
    exact h
  · have h := h.2 hp1
    refine gk_W_s 1 (pc1 := 12) (l1 := [some (.ref (a + 1)), some (.ref (b + 1)), none]) (st1 := [.int 0]) rfl ?_
    obtain ⟨rfl, rfl⟩ := h
    exact gk_W_r (i := .ireturn) rfl rfl rfl
/-- GrammarDesk$RuleSet.sameAs(LGrammarDesk$RuleSet;)Z, at 15 -/
theorem sg_19_15 {d : Nat} {rr : List gk_S} {w w' : gk_Wd} {r : gk_Res} (hS : gk_Sh rr w) {a : Nat} {b : Nat} (haa : gk_rs a) (hab : gk_rs b) (x2 : Int32)
    (h : (((w_i w a 1) ≤ x2 → (r = .inl (some (.int 1)) ∧ w' = w)) ∧ (¬ ((w_i w a 1) ≤ x2) → (gk_out x2 60 = false ∧ (gk_out x2 60 = false ∧ (((lg_cmp ((w_l w (a + 1)).getD x2.toNatClampNeg 0) ((w_l w (b + 1)).getD x2.toNatClampNeg 0)) = 0 → gk_W none d 19 15 [some (.ref (a + 1)), some (.ref (b + 1)), some (.int (x2 + 1))] [] w r w') ∧ (¬ ((lg_cmp ((w_l w (a + 1)).getD x2.toNatClampNeg 0) ((w_l w (b + 1)).getD x2.toNatClampNeg 0)) = 0) → (r = .inl (some (.int 0)) ∧ w' = w)))))))) :
    gk_W none d 19 15 [some (.ref (a + 1)), some (.ref (b + 1)), some (.int x2)] [] w r w' := by
  refine gk_W_s 2 (pc1 := 17) (l1 := [some (.ref (a + 1)), some (.ref (b + 1)), some (.int x2)]) (st1 := [.ref (a + 1), .int x2]) rfl ?_
  refine gk_W_h (i := .getfield 15) 20 rfl rfl (h_gi (a := a) (k := 1) hS haa.1 rfl) rfl ?_
  refine gk_W_b 1 ((w_i w a 1) ≤ x2) (t := 47) (e := 23) (l1 := [some (.ref (a + 1)), some (.ref (b + 1)), some (.int x2)]) (st1 := []) rfl (fun hp1 => ?_) (fun hp1 => ?_)
  · have h := h.1 hp1
    refine gk_W_s 1 (pc1 := 48) (l1 := [some (.ref (a + 1)), some (.ref (b + 1)), some (.int x2)]) (st1 := [.int 1]) rfl ?_
    obtain ⟨rfl, rfl⟩ := h
    exact gk_W_r (i := .ireturn) rfl rfl rfl
  · have h := h.2 hp1
    refine gk_W_s 1 (pc1 := 24) (l1 := [some (.ref (a + 1)), some (.ref (b + 1)), some (.int x2)]) (st1 := [.ref (a + 1)]) rfl ?_
    refine gk_W_h (i := .getfield 11) 27 rfl rfl (h_gr (a := a) (k := 0) (m := (a + 1 + 1)) hS haa.1 rfl) rfl ?_
    refine gk_W_s 1 (pc1 := 28) (l1 := [some (.ref (a + 1)), some (.ref (b + 1)), some (.int x2)]) (st1 := [.int x2, .ref (a + 1 + 1)]) rfl ?_
    obtain ⟨hb2, h⟩ := h
    refine gk_W_h (i := .laload) 29 rfl rfl (h_ll (a := a + 1) hS haa.2 hb2) rfl ?_
    refine gk_W_s 1 (pc1 := 30) (l1 := [some (.ref (a + 1)), some (.ref (b + 1)), some (.int x2)]) (st1 := [.ref (b + 1), .long ((w_l w (a + 1)).getD x2.toNatClampNeg 0)]) rfl ?_
    refine gk_W_h (i := .getfield 11) 33 rfl rfl (h_gr (a := b) (k := 0) (m := (b + 1 + 1)) hS hab.1 rfl) rfl ?_
    refine gk_W_s 1 (pc1 := 34) (l1 := [some (.ref (a + 1)), some (.ref (b + 1)), some (.int x2)]) (st1 := [.int x2, .ref (b + 1 + 1), .long ((w_l w (a + 1)).getD x2.toNatClampNeg 0)]) rfl ?_
    obtain ⟨hb3, h⟩ := h
    refine gk_W_h (i := .laload) 35 rfl rfl (h_ll (a := b + 1) hS hab.2 hb3) rfl ?_
    refine gk_W_b 2 ((lg_cmp ((w_l w (a + 1)).getD x2.toNatClampNeg 0) ((w_l w (b + 1)).getD x2.toNatClampNeg 0)) = 0) (t := 41) (e := 39) (l1 := [some (.ref (a + 1)), some (.ref (b + 1)), some (.int x2)]) (st1 := []) rfl (fun hp4 => ?_) (fun hp4 => ?_)
    · have h := h.1 hp4
      refine gk_W_s 2 (pc1 := 15) (l1 := [some (.ref (a + 1)), some (.ref (b + 1)), some (.int (x2 + 1))]) (st1 := []) rfl ?_
      exact h
    · have h := h.2 hp4
      refine gk_W_s 1 (pc1 := 40) (l1 := [some (.ref (a + 1)), some (.ref (b + 1)), some (.int x2)]) (st1 := [.int 0]) rfl ?_
      obtain ⟨rfl, rfl⟩ := h
      exact gk_W_r (i := .ireturn) rfl rfl rfl
/-- GrammarDesk$RuleSet.copyFrom(LGrammarDesk$RuleSet;)V, at 0 -/
theorem sg_20_0 {d : Nat} {rr : List gk_S} {w w' : gk_Wd} {r : gk_Res} (hS : gk_Sh rr w) {a : Nat} {b : Nat} (haa : gk_rs a) (hab : gk_rs b)
    (h : ((¬ (0 : Int32) < 0 ∧ ¬ (0 : Int32) < 0 ∧ ¬ (w_i w b 1) < 0 ∧ 0 + (w_i w b 1).toNatClampNeg ≤ 60 ∧ 0 + (w_i w b 1).toNatClampNeg ≤ 60) ∧ (r = .inl none ∧ w' = w_si (w_sl w (a + 1) (gk_cpy (w_l w (b + 1)) (w_l w (a + 1)) 0 0 (w_i w b 1).toNatClampNeg)) a 1 (w_i (w_sl w (a + 1) (gk_cpy (w_l w (b + 1)) (w_l w (a + 1)) 0 0 (w_i w b 1).toNatClampNeg)) b 1)))) :
    gk_W none d 20 0 [some (.ref (a + 1)), some (.ref (b + 1))] [] w r w' := by
  refine gk_W_s 1 (pc1 := 1) (l1 := [some (.ref (a + 1)), some (.ref (b + 1))]) (st1 := [.ref (b + 1)]) rfl ?_
  refine gk_W_h (i := .getfield 11) 4 rfl rfl (h_gr (a := b) (k := 0) (m := (b + 1 + 1)) hS hab.1 rfl) rfl ?_
  refine gk_W_s 2 (pc1 := 6) (l1 := [some (.ref (a + 1)), some (.ref (b + 1))]) (st1 := [.ref (a + 1), .int 0, .ref (b + 1 + 1)]) rfl ?_
  refine gk_W_h (i := .getfield 11) 9 rfl rfl (h_gr (a := a) (k := 0) (m := (a + 1 + 1)) hS haa.1 rfl) rfl ?_
  refine gk_W_s 2 (pc1 := 11) (l1 := [some (.ref (a + 1)), some (.ref (b + 1))]) (st1 := [.ref (b + 1), .int 0, .ref (a + 1 + 1), .int 0, .ref (b + 1 + 1)]) rfl ?_
  refine gk_W_h (i := .getfield 15) 14 rfl rfl (h_gi (a := b) (k := 1) hS hab.1 rfl) rfl ?_
  obtain ⟨hb1, h⟩ := h
  refine gk_W_h (i := .invokestatic 27) 17 rfl rfl (h_cpy (a := b + 1) (b := a + 1) (sp := 0) (dp := 0) (m := w_i w b 1) hS hab.2 haa.2 hb1 (Nat.le_of_ble_eq_true rfl)) rfl ?_
  refine gk_W_s 2 (pc1 := 19) (l1 := [some (.ref (a + 1)), some (.ref (b + 1))]) (st1 := [.ref (b + 1), .ref (a + 1)]) rfl ?_
  refine gk_W_h (i := .getfield 15) 22 rfl rfl (h_gi (a := b) (k := 1) (sh_cpy hS hab.2 haa.2 ⟨hb1.2.2.2.1, hb1.2.2.2.2⟩) hab.1 rfl) rfl ?_
  refine gk_W_h (i := .putfield 15) 25 rfl rfl (h_pi (a := a) (k := 1) (x := w_i (w_sl w (a + 1) (gk_cpy (w_l w (b + 1)) (w_l w (a + 1)) 0 0 (w_i w b 1).toNatClampNeg)) b 1) (sh_cpy hS hab.2 haa.2 ⟨hb1.2.2.2.1, hb1.2.2.2.2⟩) haa.1 rfl rfl) rfl ?_
  obtain ⟨rfl, rfl⟩ := h
  exact gk_W_r (i := .return_) rfl rfl rfl
/-- GrammarDesk$Cleaner.removeUseless(LGrammarDesk$RuleSet;)I, at 0 -/
theorem sg_30_0 {d : Nat} {rr : List gk_S} {w w' : gk_Wd} {r : gk_Res} (hS : gk_Sh rr w) {a : Nat} (haa : gk_rs a)
    (h : (∃ (v2 : Int32), gk_E d 31 [.ref (a + 1)] w (.inl (some (.int v2))) w ∧ gk_W none (d + 1) 30 18 [none, some (.ref (a + 1)), some (.int (f_13 w a)), some (.int v2), some (.int ((f_13 w a) - 1)), none] [] w r w')) :
    gk_W none (d + 1) 30 0 [some (.ref 8), some (.ref (a + 1)), none, none, none, none] [] w r w' := by
  refine gk_W_s 1 (pc1 := 1) (l1 := [some (.ref 8), some (.ref (a + 1)), none, none, none, none]) (st1 := [.ref (a + 1)]) rfl ?_
  refine gk_W_c (i := .invokevirtual 28) [.int (f_13 w a)] 4 rfl rfl (c_v (a := a) hS haa.1 rfl rfl (Nat.le_of_ble_eq_true rfl)) (f_13_E hS ⟨haa.1, haa.2⟩) rfl rfl ?_
  refine gk_W_s 2 (pc1 := 6) (l1 := [some (.ref 8), some (.ref (a + 1)), some (.int (f_13 w a)), none, none, none]) (st1 := [.ref (a + 1)]) rfl ?_
  obtain ⟨v2, hE1, h⟩ := h
  refine gk_W_c (i := .invokestatic 98) [.int v2] 9 rfl rfl rfl hE1 rfl rfl ?_
  refine gk_W_s 2 (pc1 := 11) (l1 := [some (.ref 8), some (.ref (a + 1)), some (.int (f_13 w a)), some (.int v2), none, none]) (st1 := [.ref (a + 1)]) rfl ?_
  refine gk_W_c (i := .invokevirtual 28) [.int (f_13 w a)] 14 rfl rfl (c_v (a := a) hS haa.1 rfl rfl (Nat.le_of_ble_eq_true rfl)) (f_13_E hS ⟨haa.1, haa.2⟩) rfl rfl ?_
  refine gk_W_s 3 (pc1 := 18) (l1 := [some (.ref 8), some (.ref (a + 1)), some (.int (f_13 w a)), some (.int v2), some (.int ((f_13 w a) - 1)), none]) (st1 := []) rfl ?_
  exact gk_W_le (gk_le_n (gk_le_s (gk_le_s (gk_le_s (gk_le_s (gk_le_s (gk_le_0))))))) h
/-- GrammarDesk$Cleaner.removeUseless(LGrammarDesk$RuleSet;)I, at 18 -/
theorem sg_30_18 {d : Nat} {rr : List gk_S} {w w' : gk_Wd} {r : gk_Res} (hS : gk_Sh rr w) {a : Nat} (haa : gk_rs a) (x2 : Int32) (x3 : Int32) (x4 : Int32)
    (h : ((x4 < 0 → (∃ (v3 : Int32), gk_E d 35 [.ref (a + 1)] w (.inl (some (.int v3))) w ∧ gk_W none (d + 1) 30 81 [none, some (.ref (a + 1)), some (.int x2), none, some (.int v3), some (.int ((f_13 w a) - 1))] [] w r w')) ∧ (¬ (x4 < 0) → ((gk_out x4 60 = false) ∧ (∃ (v6 : Int32), gk_E d 33 [.long (f_23 w a x4)] w (.inl (some (.int v6))) w ∧ ((gk_out x4 60 = false) ∧ ((((v6 ||| (1 <<< ((f_25 (f_23 w a x4)) &&& 31))) &&& (x3 ^^^ ((-1)))) = 0 → gk_W none (d + 1) 30 18 [none, some (.ref (a + 1)), some (.int x2), some (.int x3), some (.int (x4 + (-1))), none] [] w r w') ∧ (¬ (((v6 ||| (1 <<< ((f_25 (f_23 w a x4)) &&& 31))) &&& (x3 ^^^ ((-1)))) = 0) → (∃ (w10 : gk_Wd), gk_E d 14 [.ref (a + 1), .int x4] w (.inl none) w10 ∧ gk_Sh rr w10 ∧ gk_W none (d + 1) 30 18 [none, some (.ref (a + 1)), some (.int x2), some (.int x3), some (.int (x4 + (-1))), none] [] w10 r w'))))))))) :
    gk_W none (d + 1) 30 18 [none, some (.ref (a + 1)), some (.int x2), some (.int x3), some (.int x4), none] [] w r w' := by
  refine gk_W_b 2 (x4 < 0) (t := 67) (e := 23) (l1 := [none, some (.ref (a + 1)), some (.int x2), some (.int x3), some (.int x4), none]) (st1 := []) rfl (fun hp1 => ?_) (fun hp1 => ?_)
  · have h := h.1 hp1
    refine gk_W_s 1 (pc1 := 68) (l1 := [none, some (.ref (a + 1)), some (.int x2), some (.int x3), some (.int x4), none]) (st1 := [.ref (a + 1)]) rfl ?_
    obtain ⟨v3, hE2, h⟩ := h
    refine gk_W_c (i := .invokestatic 101) [.int v3] 71 rfl rfl rfl hE2 rfl rfl ?_
    refine gk_W_s 2 (pc1 := 74) (l1 := [none, some (.ref (a + 1)), some (.int x2), some (.int x3), some (.int v3), none]) (st1 := [.ref (a + 1)]) rfl ?_
    refine gk_W_c (i := .invokevirtual 28) [.int (f_13 w a)] 77 rfl rfl (c_v (a := a) hS haa.1 rfl rfl (Nat.le_of_ble_eq_true rfl)) (f_13_E hS ⟨haa.1, haa.2⟩) rfl rfl ?_
    refine gk_W_s 3 (pc1 := 81) (l1 := [none, some (.ref (a + 1)), some (.int x2), some (.int x3), some (.int v3), some (.int ((f_13 w a) - 1))]) (st1 := []) rfl ?_
    exact gk_W_le (gk_le_s (gk_le_s (gk_le_s (gk_le_n (gk_le_s (gk_le_s (gk_le_0))))))) h
  · have h := h.2 hp1
    refine gk_W_s 2 (pc1 := 26) (l1 := [none, some (.ref (a + 1)), some (.int x2), some (.int x3), some (.int x4), none]) (st1 := [.int x4, .ref (a + 1)]) rfl ?_
    obtain ⟨hb4, h⟩ := h
    refine gk_W_c (i := .invokevirtual 32) [.long (f_23 w a x4)] 29 rfl rfl (c_v (a := a) hS haa.1 rfl rfl (Nat.le_of_ble_eq_true rfl)) (f_23_E hS ⟨haa.1, haa.2⟩ x4 hb4) rfl rfl ?_
    obtain ⟨v6, hE5, h⟩ := h
    refine gk_W_c (i := .invokestatic 88) [.int v6] 32 rfl rfl rfl hE5 rfl rfl ?_
    refine gk_W_s 3 (pc1 := 36) (l1 := [none, some (.ref (a + 1)), some (.int x2), some (.int x3), some (.int x4), none]) (st1 := [.int x4, .ref (a + 1), .int 1, .int v6]) rfl ?_
    obtain ⟨hb7, h⟩ := h
    refine gk_W_c (i := .invokevirtual 32) [.long (f_23 w a x4), .int 1, .int v6] 39 rfl rfl (c_v (a := a) hS haa.1 rfl rfl (Nat.le_of_ble_eq_true rfl)) (f_23_E hS ⟨haa.1, haa.2⟩ x4 hb7) rfl rfl ?_
    refine gk_W_c (i := .invokestatic 85) [.int (f_25 (f_23 w a x4)), .int 1, .int v6] 42 rfl rfl rfl (f_25_E (f_23 w a x4)) rfl rfl ?_
    refine gk_W_b 9 (((v6 ||| (1 <<< ((f_25 (f_23 w a x4)) &&& 31))) &&& (x3 ^^^ ((-1)))) = 0) (t := 61) (e := 55) (l1 := [none, some (.ref (a + 1)), some (.int x2), some (.int x3), some (.int x4), some (.int (v6 ||| (1 <<< ((f_25 (f_23 w a x4)) &&& 31))))]) (st1 := []) rfl (fun hp8 => ?_) (fun hp8 => ?_)
    · have h := h.1 hp8
      refine gk_W_s 2 (pc1 := 18) (l1 := [none, some (.ref (a + 1)), some (.int x2), some (.int x3), some (.int (x4 + (-1))), some (.int (v6 ||| (1 <<< ((f_25 (f_23 w a x4)) &&& 31))))]) (st1 := []) rfl ?_
      exact gk_W_le (gk_le_s (gk_le_s (gk_le_s (gk_le_s (gk_le_s (gk_le_n (gk_le_0))))))) h
    · have h := h.2 hp8
      refine gk_W_s 2 (pc1 := 58) (l1 := [none, some (.ref (a + 1)), some (.int x2), some (.int x3), some (.int x4), some (.int (v6 ||| (1 <<< ((f_25 (f_23 w a x4)) &&& 31))))]) (st1 := [.int x4, .ref (a + 1)]) rfl ?_
      obtain ⟨w10, hE9, hS11, h⟩ := h
      refine gk_W_c (i := .invokevirtual 44) [] 61 rfl rfl (c_v (a := a) hS haa.1 rfl rfl (Nat.le_of_ble_eq_true rfl)) hE9 rfl rfl ?_
      refine gk_W_s 2 (pc1 := 18) (l1 := [none, some (.ref (a + 1)), some (.int x2), some (.int x3), some (.int (x4 + (-1))), some (.int (v6 ||| (1 <<< ((f_25 (f_23 w a x4)) &&& 31))))]) (st1 := []) rfl ?_
      exact gk_W_le (gk_le_s (gk_le_s (gk_le_s (gk_le_s (gk_le_s (gk_le_n (gk_le_0))))))) h
/-- GrammarDesk$Cleaner.removeUseless(LGrammarDesk$RuleSet;)I, at 81 -/
theorem sg_30_81 {d : Nat} {rr : List gk_S} {w w' : gk_Wd} {r : gk_Res} (hS : gk_Sh rr w) {a : Nat} (haa : gk_rs a) (x2 : Int32) (x4 : Int32) (x5 : Int32)
    (h : ((x5 < 0 → (r = .inl (some (.int (x2 - (f_13 w a)))) ∧ w' = w)) ∧ (¬ (x5 < 0) → ((gk_out x5 60 = false) ∧ ((¬ (f_36 x4 (f_25 (f_23 w a x5))) = 0 → gk_W none (d + 1) 30 81 [none, some (.ref (a + 1)), some (.int x2), none, some (.int x4), some (.int (x5 + (-1)))] [] w r w') ∧ ((f_36 x4 (f_25 (f_23 w a x5))) = 0 → (∃ (w5 : gk_Wd), gk_E d 14 [.ref (a + 1), .int x5] w (.inl none) w5 ∧ gk_Sh rr w5 ∧ gk_W none (d + 1) 30 81 [none, some (.ref (a + 1)), some (.int x2), none, some (.int x4), some (.int (x5 + (-1)))] [] w5 r w'))))))) :
    gk_W none (d + 1) 30 81 [none, some (.ref (a + 1)), some (.int x2), none, some (.int x4), some (.int x5)] [] w r w' := by
  refine gk_W_b 2 (x5 < 0) (t := 115) (e := 86) (l1 := [none, some (.ref (a + 1)), some (.int x2), none, some (.int x4), some (.int x5)]) (st1 := []) rfl (fun hp1 => ?_) (fun hp1 => ?_)
  · have h := h.1 hp1
    refine gk_W_s 2 (pc1 := 117) (l1 := [none, some (.ref (a + 1)), some (.int x2), none, some (.int x4), some (.int x5)]) (st1 := [.ref (a + 1), .int x2]) rfl ?_
    refine gk_W_c (i := .invokevirtual 28) [.int (f_13 w a), .int x2] 120 rfl rfl (c_v (a := a) hS haa.1 rfl rfl (Nat.le_of_ble_eq_true rfl)) (f_13_E hS ⟨haa.1, haa.2⟩) rfl rfl ?_
    refine gk_W_s 1 (pc1 := 121) (l1 := [none, some (.ref (a + 1)), some (.int x2), none, some (.int x4), some (.int x5)]) (st1 := [.int (x2 - (f_13 w a))]) rfl ?_
    obtain ⟨rfl, rfl⟩ := h
    exact gk_W_r (i := .ireturn) rfl rfl rfl
  · have h := h.2 hp1
    refine gk_W_s 3 (pc1 := 91) (l1 := [none, some (.ref (a + 1)), some (.int x2), none, some (.int x4), some (.int x5)]) (st1 := [.int x5, .ref (a + 1), .int x4]) rfl ?_
    obtain ⟨hb2, h⟩ := h
    refine gk_W_c (i := .invokevirtual 32) [.long (f_23 w a x5), .int x4] 94 rfl rfl (c_v (a := a) hS haa.1 rfl rfl (Nat.le_of_ble_eq_true rfl)) (f_23_E hS ⟨haa.1, haa.2⟩ x5 hb2) rfl rfl ?_
    refine gk_W_c (i := .invokestatic 85) [.int (f_25 (f_23 w a x5)), .int x4] 97 rfl rfl rfl (f_25_E (f_23 w a x5)) rfl rfl ?_
    refine gk_W_c (i := .invokestatic 60) [.int (f_36 x4 (f_25 (f_23 w a x5)))] 100 rfl rfl rfl (f_36_E x4 (f_25 (f_23 w a x5))) rfl rfl ?_
    refine gk_W_b 1 (¬ (f_36 x4 (f_25 (f_23 w a x5))) = 0) (t := 109) (e := 103) (l1 := [none, some (.ref (a + 1)), some (.int x2), none, some (.int x4), some (.int x5)]) (st1 := []) rfl (fun hp3 => ?_) (fun hp3 => ?_)
    · have h := h.1 hp3
      refine gk_W_s 2 (pc1 := 81) (l1 := [none, some (.ref (a + 1)), some (.int x2), none, some (.int x4), some (.int (x5 + (-1)))]) (st1 := []) rfl ?_
      exact h
    · have h := h.2 (Decidable.not_not.mp hp3)
      refine gk_W_s 2 (pc1 := 106) (l1 := [none, some (.ref (a + 1)), some (.int x2), none, some (.int x4), some (.int x5)]) (st1 := [.int x5, .ref (a + 1)]) rfl ?_
      obtain ⟨w5, hE4, hS6, h⟩ := h
      refine gk_W_c (i := .invokevirtual 44) [] 109 rfl rfl (c_v (a := a) hS haa.1 rfl rfl (Nat.le_of_ble_eq_true rfl)) hE4 rfl rfl ?_
      refine gk_W_s 2 (pc1 := 81) (l1 := [none, some (.ref (a + 1)), some (.int x2), none, some (.int x4), some (.int (x5 + (-1)))]) (st1 := []) rfl ?_
      exact h
/-- GrammarDesk$Facts.fruitful(LGrammarDesk$RuleSet;)I, at 0 -/
theorem sg_31_0 {d : Nat} {rr : List gk_S} {w w' : gk_Wd} {r : gk_Res} (hS : gk_Sh rr w) {a : Nat} (haa : gk_rs a)
    (h : (∃ (v2 : Int32), gk_E d 32 [.ref (a + 1), .int 1] w (.inl (some (.int v2))) w ∧ (r = .inl (some (.int v2)) ∧ w' = w))) :
    gk_W none (d + 1) 31 0 [some (.ref (a + 1))] [] w r w' := by
  refine gk_W_s 2 (pc1 := 2) (l1 := [some (.ref (a + 1))]) (st1 := [.int 1, .ref (a + 1)]) rfl ?_
  obtain ⟨v2, hE1, h⟩ := h
  refine gk_W_c (i := .invokestatic 7) [.int v2] 5 rfl rfl rfl hE1 rfl rfl ?_
  obtain ⟨rfl, rfl⟩ := h
  exact gk_W_r (i := .ireturn) rfl rfl rfl
/-- GrammarDesk$Facts.producing(LGrammarDesk$RuleSet;Z)I, at 0 -/
theorem sg_32_0 {d : Nat} {rr : List gk_S} {w w' : gk_Wd} {r : gk_Res} (hS : gk_Sh rr w) {a : Nat} (haa : gk_rs a) (x1 : Int32)
    (h : gk_W none (d + 1) 32 4 [some (.ref (a + 1)), some (.int x1), some (.int 0), some (.int 0), none, none, none, none] [] w r w') :
    gk_W none (d + 1) 32 0 [some (.ref (a + 1)), some (.int x1), none, none, none, none, none, none] [] w r w' := by
  refine gk_W_s 4 (pc1 := 4) (l1 := [some (.ref (a + 1)), some (.int x1), some (.int 0), some (.int 0), none, none, none, none]) (st1 := []) rfl ?_
  exact h
/-- GrammarDesk$Facts.producing(LGrammarDesk$RuleSet;Z)I, at 4 -/
theorem sg_32_4 {d : Nat} {rr : List gk_S} {w w' : gk_Wd} {r : gk_Res} (hS : gk_Sh rr w) {a : Nat} (haa : gk_rs a) (x1 : Int32) (x2 : Int32) (x3 : Int32)
    (h : ((16 ≤ x3 → (r = .inl (some (.int x2)) ∧ w' = w)) ∧ (¬ (16 ≤ x3) → gk_W none (d + 1) 32 16 [some (.ref (a + 1)), some (.int x1), some (.int x2), some (.int x3), some (.int x2), some (.int 0), none, none] [] w r w'))) :
    gk_W none (d + 1) 32 4 [some (.ref (a + 1)), some (.int x1), some (.int x2), some (.int x3), none, none, none, none] [] w r w' := by
  refine gk_W_b 3 (16 ≤ x3) (t := 88) (e := 10) (l1 := [some (.ref (a + 1)), some (.int x1), some (.int x2), some (.int x3), none, none, none, none]) (st1 := []) rfl (fun hp1 => ?_) (fun hp1 => ?_)
  · have h := h.1 hp1
    refine gk_W_s 1 (pc1 := 89) (l1 := [some (.ref (a + 1)), some (.int x1), some (.int x2), some (.int x3), none, none, none, none]) (st1 := [.int x2]) rfl ?_
    obtain ⟨rfl, rfl⟩ := h
    exact gk_W_r (i := .ireturn) rfl rfl rfl
  · have h := h.2 hp1
    refine gk_W_s 4 (pc1 := 16) (l1 := [some (.ref (a + 1)), some (.int x1), some (.int x2), some (.int x3), some (.int x2), some (.int 0), none, none]) (st1 := []) rfl ?_
    exact h
/-- GrammarDesk$Facts.producing(LGrammarDesk$RuleSet;Z)I, at 16 -/
theorem sg_32_16 {d : Nat} {rr : List gk_S} {w w' : gk_Wd} {r : gk_Res} (hS : gk_Sh rr w) {a : Nat} (haa : gk_rs a) (x1 : Int32) (x2 : Int32) (x3 : Int32) (x4 : Int32) (x5 : Int32)
    (h : (((f_13 w a) ≤ x5 → ((¬ x2 = x4 → gk_W none (d + 1) 32 4 [some (.ref (a + 1)), some (.int x1), some (.int x2), some (.int (x3 + 1)), none, none, none, none] [] w r w') ∧ (x2 = x4 → (r = .inl (some (.int x2)) ∧ w' = w)))) ∧ (¬ ((f_13 w a) ≤ x5) → ((gk_out x5 60 = false) ∧ (∃ (v5 : Int32), gk_E d 33 [.long (f_23 w a x5)] w (.inl (some (.int v5))) w ∧ ((¬ (v5 &&& (x2 ^^^ ((-1)))) = 0 → gk_W none (d + 1) 32 16 [some (.ref (a + 1)), some (.int x1), some (.int x2), some (.int x3), some (.int x4), some (.int (x5 + 1)), none, none] [] w r w') ∧ ((v5 &&& (x2 ^^^ ((-1)))) = 0 → ((¬ x1 = 0 → gk_W none (d + 1) 32 16 [some (.ref (a + 1)), some (.int x1), some (.int (x2 ||| (1 <<< ((f_25 (f_23 w a x5)) &&& 31)))), some (.int x3), some (.int x4), some (.int (x5 + 1)), none, none] [] w r w') ∧ (x1 = 0 → (∃ (v9 : Int32), gk_E d 34 [.long (f_23 w a x5)] w (.inl (some (.int v9))) w ∧ ((¬ v9 = 0 → gk_W none (d + 1) 32 16 [some (.ref (a + 1)), some (.int x1), some (.int x2), some (.int x3), some (.int x4), some (.int (x5 + 1)), none, none] [] w r w') ∧ (v9 = 0 → gk_W none (d + 1) 32 16 [some (.ref (a + 1)), some (.int x1), some (.int (x2 ||| (1 <<< ((f_25 (f_23 w a x5)) &&& 31)))), some (.int x3), some (.int x4), some (.int (x5 + 1)), none, none] [] w r w')))))))))))) :
    gk_W none (d + 1) 32 16 [some (.ref (a + 1)), some (.int x1), some (.int x2), some (.int x3), some (.int x4), some (.int x5), none, none] [] w r w' := by
  refine gk_W_s 2 (pc1 := 19) (l1 := [some (.ref (a + 1)), some (.int x1), some (.int x2), some (.int x3), some (.int x4), some (.int x5), none, none]) (st1 := [.ref (a + 1), .int x5]) rfl ?_
  refine gk_W_c (i := .invokevirtual 15) [.int (f_13 w a), .int x5] 22 rfl rfl (c_v (a := a) hS haa.1 rfl rfl (Nat.le_of_ble_eq_true rfl)) (f_13_E hS ⟨haa.1, haa.2⟩) rfl rfl ?_
  refine gk_W_b 1 ((f_13 w a) ≤ x5) (t := 73) (e := 25) (l1 := [some (.ref (a + 1)), some (.int x1), some (.int x2), some (.int x3), some (.int x4), some (.int x5), none, none]) (st1 := []) rfl (fun hp1 => ?_) (fun hp1 => ?_)
  · have h := h.1 hp1
    refine gk_W_b 3 (¬ x2 = x4) (t := 82) (e := 79) (l1 := [some (.ref (a + 1)), some (.int x1), some (.int x2), some (.int x3), some (.int x4), some (.int x5), none, none]) (st1 := []) rfl (fun hp2 => ?_) (fun hp2 => ?_)
    · have h := h.1 hp2
      refine gk_W_s 2 (pc1 := 4) (l1 := [some (.ref (a + 1)), some (.int x1), some (.int x2), some (.int (x3 + 1)), some (.int x4), some (.int x5), none, none]) (st1 := []) rfl ?_
      exact gk_W_le (gk_le_s (gk_le_s (gk_le_s (gk_le_s (gk_le_n (gk_le_n (gk_le_s (gk_le_s (gk_le_0))))))))) h
    · have h := h.2 (Decidable.not_not.mp hp2)
      refine gk_W_s 2 (pc1 := 89) (l1 := [some (.ref (a + 1)), some (.int x1), some (.int x2), some (.int x3), some (.int x4), some (.int x5), none, none]) (st1 := [.int x2]) rfl ?_
      obtain ⟨rfl, rfl⟩ := h
      exact gk_W_r (i := .ireturn) rfl rfl rfl
  · have h := h.2 hp1
    refine gk_W_s 2 (pc1 := 28) (l1 := [some (.ref (a + 1)), some (.int x1), some (.int x2), some (.int x3), some (.int x4), some (.int x5), none, none]) (st1 := [.int x5, .ref (a + 1)]) rfl ?_
    obtain ⟨hb3, h⟩ := h
    refine gk_W_c (i := .invokevirtual 21) [.long (f_23 w a x5)] 31 rfl rfl (c_v (a := a) hS haa.1 rfl rfl (Nat.le_of_ble_eq_true rfl)) (f_23_E hS ⟨haa.1, haa.2⟩ x5 hb3) rfl rfl ?_
    refine gk_W_s 2 (pc1 := 35) (l1 := [some (.ref (a + 1)), some (.int x1), some (.int x2), some (.int x3), some (.int x4), some (.int x5), some (.long (f_23 w a x5)), none]) (st1 := [.long (f_23 w a x5)]) rfl ?_
    obtain ⟨v5, hE4, h⟩ := h
    refine gk_W_c (i := .invokestatic 25) [.int v5] 38 rfl rfl rfl hE4 rfl rfl ?_
    refine gk_W_b 5 (¬ (v5 &&& (x2 ^^^ ((-1)))) = 0) (t := 67) (e := 45) (l1 := [some (.ref (a + 1)), some (.int x1), some (.int x2), some (.int x3), some (.int x4), some (.int x5), some (.long (f_23 w a x5)), none]) (st1 := []) rfl (fun hp6 => ?_) (fun hp6 => ?_)
    · have h := h.1 hp6
      refine gk_W_s 2 (pc1 := 16) (l1 := [some (.ref (a + 1)), some (.int x1), some (.int x2), some (.int x3), some (.int x4), some (.int (x5 + 1)), some (.long (f_23 w a x5)), none]) (st1 := []) rfl ?_
      exact gk_W_le (gk_le_s (gk_le_s (gk_le_s (gk_le_s (gk_le_s (gk_le_s (gk_le_n (gk_le_s (gk_le_0))))))))) h
    · have h := h.2 (Decidable.not_not.mp hp6)
      refine gk_W_b 2 (¬ x1 = 0) (t := 57) (e := 49) (l1 := [some (.ref (a + 1)), some (.int x1), some (.int x2), some (.int x3), some (.int x4), some (.int x5), some (.long (f_23 w a x5)), none]) (st1 := []) rfl (fun hp7 => ?_) (fun hp7 => ?_)
      · have h := h.1 hp7
        refine gk_W_s 3 (pc1 := 61) (l1 := [some (.ref (a + 1)), some (.int x1), some (.int x2), some (.int x3), some (.int x4), some (.int x5), some (.long (f_23 w a x5)), none]) (st1 := [.long (f_23 w a x5), .int 1, .int x2]) rfl ?_
        refine gk_W_c (i := .invokestatic 33) [.int (f_25 (f_23 w a x5)), .int 1, .int x2] 64 rfl rfl rfl (f_25_E (f_23 w a x5)) rfl rfl ?_
        refine gk_W_s 5 (pc1 := 16) (l1 := [some (.ref (a + 1)), some (.int x1), some (.int (x2 ||| (1 <<< ((f_25 (f_23 w a x5)) &&& 31)))), some (.int x3), some (.int x4), some (.int (x5 + 1)), some (.long (f_23 w a x5)), none]) (st1 := []) rfl ?_
        exact gk_W_le (gk_le_s (gk_le_s (gk_le_s (gk_le_s (gk_le_s (gk_le_s (gk_le_n (gk_le_s (gk_le_0))))))))) h
      · have h := h.2 (Decidable.not_not.mp hp7)
        refine gk_W_s 1 (pc1 := 51) (l1 := [some (.ref (a + 1)), some (.int x1), some (.int x2), some (.int x3), some (.int x4), some (.int x5), some (.long (f_23 w a x5)), none]) (st1 := [.long (f_23 w a x5)]) rfl ?_
        obtain ⟨v9, hE8, h⟩ := h
        refine gk_W_c (i := .invokestatic 29) [.int v9] 54 rfl rfl rfl hE8 rfl rfl ?_
        refine gk_W_b 1 (¬ v9 = 0) (t := 67) (e := 57) (l1 := [some (.ref (a + 1)), some (.int x1), some (.int x2), some (.int x3), some (.int x4), some (.int x5), some (.long (f_23 w a x5)), none]) (st1 := []) rfl (fun hp10 => ?_) (fun hp10 => ?_)
        · have h := h.1 hp10
          refine gk_W_s 2 (pc1 := 16) (l1 := [some (.ref (a + 1)), some (.int x1), some (.int x2), some (.int x3), some (.int x4), some (.int (x5 + 1)), some (.long (f_23 w a x5)), none]) (st1 := []) rfl ?_
          exact gk_W_le (gk_le_s (gk_le_s (gk_le_s (gk_le_s (gk_le_s (gk_le_s (gk_le_n (gk_le_s (gk_le_0))))))))) h
        · have h := h.2 (Decidable.not_not.mp hp10)
          refine gk_W_s 3 (pc1 := 61) (l1 := [some (.ref (a + 1)), some (.int x1), some (.int x2), some (.int x3), some (.int x4), some (.int x5), some (.long (f_23 w a x5)), none]) (st1 := [.long (f_23 w a x5), .int 1, .int x2]) rfl ?_
          refine gk_W_c (i := .invokestatic 33) [.int (f_25 (f_23 w a x5)), .int 1, .int x2] 64 rfl rfl rfl (f_25_E (f_23 w a x5)) rfl rfl ?_
          refine gk_W_s 5 (pc1 := 16) (l1 := [some (.ref (a + 1)), some (.int x1), some (.int (x2 ||| (1 <<< ((f_25 (f_23 w a x5)) &&& 31)))), some (.int x3), some (.int x4), some (.int (x5 + 1)), some (.long (f_23 w a x5)), none]) (st1 := []) rfl ?_
          exact gk_W_le (gk_le_s (gk_le_s (gk_le_s (gk_le_s (gk_le_s (gk_le_s (gk_le_n (gk_le_s (gk_le_0))))))))) h
/-- GrammarDesk$Packed.variablesOf(J)I, at 0 -/
theorem sg_33_0 {d : Nat} {rr : List gk_S} {w w' : gk_Wd} {r : gk_Res} (hS : gk_Sh rr w) (y0 : Int64)
    (h : gk_W none (d + 1) 33 4 [some (.long y0), none, some (.int 0), some (.int 1)] [] w r w') :
    gk_W none (d + 1) 33 0 [some (.long y0), none, none, none] [] w r w' := by
  refine gk_W_s 4 (pc1 := 4) (l1 := [some (.long y0), none, some (.int 0), some (.int 1)]) (st1 := []) rfl ?_
  exact h
/-- GrammarDesk$Packed.variablesOf(J)I, at 4 -/
theorem sg_33_4 {d : Nat} {rr : List gk_S} {w w' : gk_Wd} {r : gk_Res} (hS : gk_Sh rr w) (y0 : Int64) (x2 : Int32) (x3 : Int32)
    (h : (((f_24 y0) < x3 → (r = .inl (some (.int x2)) ∧ w' = w)) ∧ (¬ ((f_24 y0) < x3) → (((f_28 (f_26 y0 x3)) = 0 → gk_W none (d + 1) 33 4 [some (.long y0), none, some (.int x2), some (.int (x3 + 1))] [] w r w') ∧ (¬ ((f_28 (f_26 y0 x3)) = 0) → gk_W none (d + 1) 33 4 [some (.long y0), none, some (.int (x2 ||| (1 <<< ((f_26 y0 x3) &&& 31)))), some (.int (x3 + 1))] [] w r w'))))) :
    gk_W none (d + 1) 33 4 [some (.long y0), none, some (.int x2), some (.int x3)] [] w r w' := by
  refine gk_W_s 2 (pc1 := 6) (l1 := [some (.long y0), none, some (.int x2), some (.int x3)]) (st1 := [.long y0, .int x3]) rfl ?_
  refine gk_W_c (i := .invokestatic 15) [.int (f_24 y0), .int x3] 9 rfl rfl rfl (f_24_E y0) rfl rfl ?_
  refine gk_W_b 1 ((f_24 y0) < x3) (t := 39) (e := 12) (l1 := [some (.long y0), none, some (.int x2), some (.int x3)]) (st1 := []) rfl (fun hp1 => ?_) (fun hp1 => ?_)
  · have h := h.1 hp1
    refine gk_W_s 1 (pc1 := 40) (l1 := [some (.long y0), none, some (.int x2), some (.int x3)]) (st1 := [.int x2]) rfl ?_
    obtain ⟨rfl, rfl⟩ := h
    exact gk_W_r (i := .ireturn) rfl rfl rfl
  · have h := h.2 hp1
    refine gk_W_s 2 (pc1 := 14) (l1 := [some (.long y0), none, some (.int x2), some (.int x3)]) (st1 := [.int x3, .long y0]) rfl ?_
    refine gk_W_c (i := .invokestatic 21) [.int (f_26 y0 x3)] 17 rfl rfl rfl (f_26_E y0 x3) rfl rfl ?_
    refine gk_W_c (i := .invokestatic 9) [.int (f_28 (f_26 y0 x3))] 20 rfl rfl rfl (f_28_E (f_26 y0 x3)) rfl rfl ?_
    refine gk_W_b 1 ((f_28 (f_26 y0 x3)) = 0) (t := 33) (e := 23) (l1 := [some (.long y0), none, some (.int x2), some (.int x3)]) (st1 := []) rfl (fun hp2 => ?_) (fun hp2 => ?_)
    · have h := h.1 hp2
      refine gk_W_s 2 (pc1 := 4) (l1 := [some (.long y0), none, some (.int x2), some (.int (x3 + 1))]) (st1 := []) rfl ?_
      exact h
    · have h := h.2 hp2
      refine gk_W_s 4 (pc1 := 27) (l1 := [some (.long y0), none, some (.int x2), some (.int x3)]) (st1 := [.int x3, .long y0, .int 1, .int x2]) rfl ?_
      refine gk_W_c (i := .invokestatic 21) [.int (f_26 y0 x3), .int 1, .int x2] 30 rfl rfl rfl (f_26_E y0 x3) rfl rfl ?_
      refine gk_W_s 5 (pc1 := 4) (l1 := [some (.long y0), none, some (.int (x2 ||| (1 <<< ((f_26 y0 x3) &&& 31)))), some (.int (x3 + 1))]) (st1 := []) rfl ?_
      exact h
/-- GrammarDesk$Packed.hasLetter(J)Z, at 0 -/
theorem sg_34_0 {d : Nat} {rr : List gk_S} {w w' : gk_Wd} {r : gk_Res} (hS : gk_Sh rr w) (y0 : Int64)
    (h : gk_W none (d + 1) 34 2 [some (.long y0), none, some (.int 1)] [] w r w') :
    gk_W none (d + 1) 34 0 [some (.long y0), none, none] [] w r w' := by
  refine gk_W_s 2 (pc1 := 2) (l1 := [some (.long y0), none, some (.int 1)]) (st1 := []) rfl ?_
  exact h
/-- GrammarDesk$Packed.hasLetter(J)Z, at 2 -/
theorem sg_34_2 {d : Nat} {rr : List gk_S} {w w' : gk_Wd} {r : gk_Res} (hS : gk_Sh rr w) (y0 : Int64) (x2 : Int32)
    (h : (((f_24 y0) < x2 → (r = .inl (some (.int 0)) ∧ w' = w)) ∧ (¬ ((f_24 y0) < x2) → ((¬ (f_28 (f_26 y0 x2)) = 0 → gk_W none (d + 1) 34 2 [some (.long y0), none, some (.int (x2 + 1))] [] w r w') ∧ ((f_28 (f_26 y0 x2)) = 0 → (r = .inl (some (.int 1)) ∧ w' = w)))))) :
    gk_W none (d + 1) 34 2 [some (.long y0), none, some (.int x2)] [] w r w' := by
  refine gk_W_s 2 (pc1 := 4) (l1 := [some (.long y0), none, some (.int x2)]) (st1 := [.long y0, .int x2]) rfl ?_
  refine gk_W_c (i := .invokestatic 15) [.int (f_24 y0), .int x2] 7 rfl rfl rfl (f_24_E y0) rfl rfl ?_
  refine gk_W_b 1 ((f_24 y0) < x2) (t := 29) (e := 10) (l1 := [some (.long y0), none, some (.int x2)]) (st1 := []) rfl (fun hp1 => ?_) (fun hp1 => ?_)
  · have h := h.1 hp1
    refine gk_W_s 1 (pc1 := 30) (l1 := [some (.long y0), none, some (.int x2)]) (st1 := [.int 0]) rfl ?_
    obtain ⟨rfl, rfl⟩ := h
    exact gk_W_r (i := .ireturn) rfl rfl rfl
  · have h := h.2 hp1
    refine gk_W_s 2 (pc1 := 12) (l1 := [some (.long y0), none, some (.int x2)]) (st1 := [.int x2, .long y0]) rfl ?_
    refine gk_W_c (i := .invokestatic 21) [.int (f_26 y0 x2)] 15 rfl rfl rfl (f_26_E y0 x2) rfl rfl ?_
    refine gk_W_c (i := .invokestatic 9) [.int (f_28 (f_26 y0 x2))] 18 rfl rfl rfl (f_28_E (f_26 y0 x2)) rfl rfl ?_
    refine gk_W_b 1 (¬ (f_28 (f_26 y0 x2)) = 0) (t := 23) (e := 21) (l1 := [some (.long y0), none, some (.int x2)]) (st1 := []) rfl (fun hp2 => ?_) (fun hp2 => ?_)
    · have h := h.1 hp2
      refine gk_W_s 2 (pc1 := 2) (l1 := [some (.long y0), none, some (.int (x2 + 1))]) (st1 := []) rfl ?_
      exact h
    · have h := h.2 (Decidable.not_not.mp hp2)
      refine gk_W_s 1 (pc1 := 22) (l1 := [some (.long y0), none, some (.int x2)]) (st1 := [.int 1]) rfl ?_
      obtain ⟨rfl, rfl⟩ := h
      exact gk_W_r (i := .ireturn) rfl rfl rfl
/-- GrammarDesk$Facts.reached(LGrammarDesk$RuleSet;)I, at 0 -/
theorem sg_35_0 {d : Nat} {rr : List gk_S} {w w' : gk_Wd} {r : gk_Res} (hS : gk_Sh rr w) {a : Nat} (haa : gk_rs a)
    (h : gk_W none (d + 1) 35 4 [some (.ref (a + 1)), some (.int 1), some (.int 0), none, none] [] w r w') :
    gk_W none (d + 1) 35 0 [some (.ref (a + 1)), none, none, none, none] [] w r w' := by
  refine gk_W_s 4 (pc1 := 4) (l1 := [some (.ref (a + 1)), some (.int 1), some (.int 0), none, none]) (st1 := []) rfl ?_
  exact h
/-- GrammarDesk$Facts.reached(LGrammarDesk$RuleSet;)I, at 4 -/
theorem sg_35_4 {d : Nat} {rr : List gk_S} {w w' : gk_Wd} {r : gk_Res} (hS : gk_Sh rr w) {a : Nat} (haa : gk_rs a) (x1 : Int32) (x2 : Int32)
    (h : ((16 ≤ x2 → (r = .inl (some (.int x1)) ∧ w' = w)) ∧ (¬ (16 ≤ x2) → gk_W none (d + 1) 35 15 [some (.ref (a + 1)), some (.int x1), some (.int x2), some (.int x1), some (.int 0)] [] w r w'))) :
    gk_W none (d + 1) 35 4 [some (.ref (a + 1)), some (.int x1), some (.int x2), none, none] [] w r w' := by
  refine gk_W_b 3 (16 ≤ x2) (t := 72) (e := 10) (l1 := [some (.ref (a + 1)), some (.int x1), some (.int x2), none, none]) (st1 := []) rfl (fun hp1 => ?_) (fun hp1 => ?_)
  · have h := h.1 hp1
    refine gk_W_s 1 (pc1 := 73) (l1 := [some (.ref (a + 1)), some (.int x1), some (.int x2), none, none]) (st1 := [.int x1]) rfl ?_
    obtain ⟨rfl, rfl⟩ := h
    exact gk_W_r (i := .ireturn) rfl rfl rfl
  · have h := h.2 hp1
    refine gk_W_s 4 (pc1 := 15) (l1 := [some (.ref (a + 1)), some (.int x1), some (.int x2), some (.int x1), some (.int 0)]) (st1 := []) rfl ?_
    exact h
/-- GrammarDesk$Facts.reached(LGrammarDesk$RuleSet;)I, at 15 -/
theorem sg_35_15 {d : Nat} {rr : List gk_S} {w w' : gk_Wd} {r : gk_Res} (hS : gk_Sh rr w) {a : Nat} (haa : gk_rs a) (x1 : Int32) (x2 : Int32) (x3 : Int32) (x4 : Int32)
    (h : (((f_13 w a) ≤ x4 → ((¬ x1 = x3 → gk_W none (d + 1) 35 4 [some (.ref (a + 1)), some (.int x1), some (.int (x2 + 1)), none, none] [] w r w') ∧ (x1 = x3 → (r = .inl (some (.int x1)) ∧ w' = w)))) ∧ (¬ ((f_13 w a) ≤ x4) → ((gk_out x4 60 = false) ∧ (((f_36 x1 (f_25 (f_23 w a x4))) = 0 → gk_W none (d + 1) 35 15 [some (.ref (a + 1)), some (.int x1), some (.int x2), some (.int x3), some (.int (x4 + 1))] [] w r w') ∧ (¬ ((f_36 x1 (f_25 (f_23 w a x4))) = 0) → ((gk_out x4 60 = false) ∧ (∃ (v7 : Int32), gk_E d 33 [.long (f_23 w a x4)] w (.inl (some (.int v7))) w ∧ gk_W none (d + 1) 35 15 [some (.ref (a + 1)), some (.int (x1 ||| v7)), some (.int x2), some (.int x3), some (.int (x4 + 1))] [] w r w')))))))) :
    gk_W none (d + 1) 35 15 [some (.ref (a + 1)), some (.int x1), some (.int x2), some (.int x3), some (.int x4)] [] w r w' := by
  refine gk_W_s 2 (pc1 := 18) (l1 := [some (.ref (a + 1)), some (.int x1), some (.int x2), some (.int x3), some (.int x4)]) (st1 := [.ref (a + 1), .int x4]) rfl ?_
  refine gk_W_c (i := .invokevirtual 15) [.int (f_13 w a), .int x4] 21 rfl rfl (c_v (a := a) hS haa.1 rfl rfl (Nat.le_of_ble_eq_true rfl)) (f_13_E hS ⟨haa.1, haa.2⟩) rfl rfl ?_
  refine gk_W_b 1 ((f_13 w a) ≤ x4) (t := 58) (e := 24) (l1 := [some (.ref (a + 1)), some (.int x1), some (.int x2), some (.int x3), some (.int x4)]) (st1 := []) rfl (fun hp1 => ?_) (fun hp1 => ?_)
  · have h := h.1 hp1
    refine gk_W_b 3 (¬ x1 = x3) (t := 66) (e := 63) (l1 := [some (.ref (a + 1)), some (.int x1), some (.int x2), some (.int x3), some (.int x4)]) (st1 := []) rfl (fun hp2 => ?_) (fun hp2 => ?_)
    · have h := h.1 hp2
      refine gk_W_s 2 (pc1 := 4) (l1 := [some (.ref (a + 1)), some (.int x1), some (.int (x2 + 1)), some (.int x3), some (.int x4)]) (st1 := []) rfl ?_
      exact gk_W_le (gk_le_s (gk_le_s (gk_le_s (gk_le_n (gk_le_n (gk_le_0)))))) h
    · have h := h.2 (Decidable.not_not.mp hp2)
      refine gk_W_s 2 (pc1 := 73) (l1 := [some (.ref (a + 1)), some (.int x1), some (.int x2), some (.int x3), some (.int x4)]) (st1 := [.int x1]) rfl ?_
      obtain ⟨rfl, rfl⟩ := h
      exact gk_W_r (i := .ireturn) rfl rfl rfl
  · have h := h.2 hp1
    refine gk_W_s 3 (pc1 := 28) (l1 := [some (.ref (a + 1)), some (.int x1), some (.int x2), some (.int x3), some (.int x4)]) (st1 := [.int x4, .ref (a + 1), .int x1]) rfl ?_
    obtain ⟨hb3, h⟩ := h
    refine gk_W_c (i := .invokevirtual 21) [.long (f_23 w a x4), .int x1] 31 rfl rfl (c_v (a := a) hS haa.1 rfl rfl (Nat.le_of_ble_eq_true rfl)) (f_23_E hS ⟨haa.1, haa.2⟩ x4 hb3) rfl rfl ?_
    refine gk_W_c (i := .invokestatic 33) [.int (f_25 (f_23 w a x4)), .int x1] 34 rfl rfl rfl (f_25_E (f_23 w a x4)) rfl rfl ?_
    refine gk_W_c (i := .invokestatic 36) [.int (f_36 x1 (f_25 (f_23 w a x4)))] 37 rfl rfl rfl (f_36_E x1 (f_25 (f_23 w a x4))) rfl rfl ?_
    refine gk_W_b 1 ((f_36 x1 (f_25 (f_23 w a x4))) = 0) (t := 52) (e := 40) (l1 := [some (.ref (a + 1)), some (.int x1), some (.int x2), some (.int x3), some (.int x4)]) (st1 := []) rfl (fun hp4 => ?_) (fun hp4 => ?_)
    · have h := h.1 hp4
      refine gk_W_s 2 (pc1 := 15) (l1 := [some (.ref (a + 1)), some (.int x1), some (.int x2), some (.int x3), some (.int (x4 + 1))]) (st1 := []) rfl ?_
      exact h
    · have h := h.2 hp4
      refine gk_W_s 3 (pc1 := 44) (l1 := [some (.ref (a + 1)), some (.int x1), some (.int x2), some (.int x3), some (.int x4)]) (st1 := [.int x4, .ref (a + 1), .int x1]) rfl ?_
      obtain ⟨hb5, h⟩ := h
      refine gk_W_c (i := .invokevirtual 21) [.long (f_23 w a x4), .int x1] 47 rfl rfl (c_v (a := a) hS haa.1 rfl rfl (Nat.le_of_ble_eq_true rfl)) (f_23_E hS ⟨haa.1, haa.2⟩ x4 hb5) rfl rfl ?_
      obtain ⟨v7, hE6, h⟩ := h
      refine gk_W_c (i := .invokestatic 25) [.int v7, .int x1] 50 rfl rfl rfl hE6 rfl rfl ?_
      refine gk_W_s 4 (pc1 := 15) (l1 := [some (.ref (a + 1)), some (.int (x1 ||| v7)), some (.int x2), some (.int x3), some (.int (x4 + 1))]) (st1 := []) rfl ?_
      exact h
/-- GrammarDesk$Packed.isGreibach(J)Z, at 0 -/
theorem sg_41_0 {d : Nat} {rr : List gk_S} {w w' : gk_Wd} {r : gk_Res} (hS : gk_Sh rr w) (y0 : Int64)
    (h : ((¬ (f_39 y0) = 0 → (r = .inl (some (.int 0)) ∧ w' = w)) ∧ ((f_39 y0) = 0 → (((f_42 y0) = 0 → gk_W none (d + 2) 41 18 [some (.long y0), none, some (.int 2)] [] w r w') ∧ (¬ ((f_42 y0) = 0) → (r = .inl (some (.int 0)) ∧ w' = w)))))) :
    gk_W none (d + 2) 41 0 [some (.long y0), none, none] [] w r w' := by
  refine gk_W_s 1 (pc1 := 1) (l1 := [some (.long y0), none, none]) (st1 := [.long y0]) rfl ?_
  refine gk_W_c (i := .invokestatic 36) [.int (f_39 y0)] 4 rfl rfl rfl (f_39_E y0) rfl rfl ?_
  refine gk_W_b 1 (¬ (f_39 y0) = 0) (t := 14) (e := 7) (l1 := [some (.long y0), none, none]) (st1 := []) rfl (fun hp1 => ?_) (fun hp1 => ?_)
  · have h := h.1 hp1
    refine gk_W_s 1 (pc1 := 15) (l1 := [some (.long y0), none, none]) (st1 := [.int 0]) rfl ?_
    obtain ⟨rfl, rfl⟩ := h
    exact gk_W_r (i := .ireturn) rfl rfl rfl
  · have h := h.2 (Decidable.not_not.mp hp1)
    refine gk_W_s 1 (pc1 := 8) (l1 := [some (.long y0), none, none]) (st1 := [.long y0]) rfl ?_
    refine gk_W_c (i := .invokestatic 40) [.int (f_42 y0)] 11 rfl rfl rfl (f_42_E y0) rfl rfl ?_
    refine gk_W_b 1 ((f_42 y0) = 0) (t := 16) (e := 14) (l1 := [some (.long y0), none, none]) (st1 := []) rfl (fun hp2 => ?_) (fun hp2 => ?_)
    · have h := h.1 hp2
      refine gk_W_s 2 (pc1 := 18) (l1 := [some (.long y0), none, some (.int 2)]) (st1 := []) rfl ?_
      exact h
    · have h := h.2 hp2
      refine gk_W_s 1 (pc1 := 15) (l1 := [some (.long y0), none, none]) (st1 := [.int 0]) rfl ?_
      obtain ⟨rfl, rfl⟩ := h
      exact gk_W_r (i := .ireturn) rfl rfl rfl
/-- GrammarDesk$Packed.isGreibach(J)Z, at 18 -/
theorem sg_41_18 {d : Nat} {rr : List gk_S} {w w' : gk_Wd} {r : gk_Res} (hS : gk_Sh rr w) (y0 : Int64) (x2 : Int32)
    (h : (((f_24 y0) < x2 → (r = .inl (some (.int 1)) ∧ w' = w)) ∧ (¬ ((f_24 y0) < x2) → ((¬ (f_28 (f_26 y0 x2)) = 0 → gk_W none (d + 2) 41 18 [some (.long y0), none, some (.int (x2 + 1))] [] w r w') ∧ ((f_28 (f_26 y0 x2)) = 0 → (r = .inl (some (.int 0)) ∧ w' = w)))))) :
    gk_W none (d + 2) 41 18 [some (.long y0), none, some (.int x2)] [] w r w' := by
  refine gk_W_s 2 (pc1 := 20) (l1 := [some (.long y0), none, some (.int x2)]) (st1 := [.long y0, .int x2]) rfl ?_
  refine gk_W_c (i := .invokestatic 15) [.int (f_24 y0), .int x2] 23 rfl rfl rfl (f_24_E y0) rfl rfl ?_
  refine gk_W_b 1 ((f_24 y0) < x2) (t := 45) (e := 26) (l1 := [some (.long y0), none, some (.int x2)]) (st1 := []) rfl (fun hp1 => ?_) (fun hp1 => ?_)
  · have h := h.1 hp1
    refine gk_W_s 1 (pc1 := 46) (l1 := [some (.long y0), none, some (.int x2)]) (st1 := [.int 1]) rfl ?_
    obtain ⟨rfl, rfl⟩ := h
    exact gk_W_r (i := .ireturn) rfl rfl rfl
  · have h := h.2 hp1
    refine gk_W_s 2 (pc1 := 28) (l1 := [some (.long y0), none, some (.int x2)]) (st1 := [.int x2, .long y0]) rfl ?_
    refine gk_W_c (i := .invokestatic 21) [.int (f_26 y0 x2)] 31 rfl rfl rfl (f_26_E y0 x2) rfl rfl ?_
    refine gk_W_c (i := .invokestatic 9) [.int (f_28 (f_26 y0 x2))] 34 rfl rfl rfl (f_28_E (f_26 y0 x2)) rfl rfl ?_
    refine gk_W_b 1 (¬ (f_28 (f_26 y0 x2)) = 0) (t := 39) (e := 37) (l1 := [some (.long y0), none, some (.int x2)]) (st1 := []) rfl (fun hp2 => ?_) (fun hp2 => ?_)
    · have h := h.1 hp2
      refine gk_W_s 2 (pc1 := 18) (l1 := [some (.long y0), none, some (.int (x2 + 1))]) (st1 := []) rfl ?_
      exact h
    · have h := h.2 (Decidable.not_not.mp hp2)
      refine gk_W_s 1 (pc1 := 38) (l1 := [some (.long y0), none, some (.int x2)]) (st1 := [.int 0]) rfl ?_
      obtain ⟨rfl, rfl⟩ := h
      exact gk_W_r (i := .ireturn) rfl rfl rfl
/-- GrammarDesk$Facts.close([I)V, at 0 -/
theorem sg_46_0 {d : Nat} {rr : List gk_S} {w w' : gk_Wd} {r : gk_Res} (hS : gk_Sh rr w) {q : Nat} (haq : gp_lay[q]? = some (.inr (.inl (0, 16))))
    (h : gk_W none (d + 1) 46 2 [some (.ref (q + 1)), some (.int 0), none] [] w r w') :
    gk_W none (d + 1) 46 0 [some (.ref (q + 1)), none, none] [] w r w' := by
  refine gk_W_s 2 (pc1 := 2) (l1 := [some (.ref (q + 1)), some (.int 0), none]) (st1 := []) rfl ?_
  exact h
/-- GrammarDesk$Facts.close([I)V, at 2 -/
theorem sg_46_2 {d : Nat} {rr : List gk_S} {w w' : gk_Wd} {r : gk_Res} (hS : gk_Sh rr w) {q : Nat} (haq : gp_lay[q]? = some (.inr (.inl (0, 16)))) (x1 : Int32)
    (h : ((16 ≤ x1 → gk_W none (d + 1) 46 25 [some (.ref (q + 1)), some (.int 0), none] [] w r w') ∧ (¬ (16 ≤ x1) → (gk_out x1 16 = false ∧ (gk_out x1 16 = false ∧ gk_W none (d + 1) 46 2 [some (.ref (q + 1)), some (.int (x1 + 1)), none] [] (w_sa w q ((w_a w q).set x1.toNatClampNeg (((w_a w q).getD x1.toNatClampNeg 0) ||| (1 <<< (x1 &&& 31))))) r w'))))) :
    gk_W none (d + 1) 46 2 [some (.ref (q + 1)), some (.int x1), none] [] w r w' := by
  refine gk_W_s 2 (pc1 := 4) (l1 := [some (.ref (q + 1)), some (.int x1), none]) (st1 := [.ref (q + 1), .int x1]) rfl ?_
  refine gk_W_h (i := .arraylength) 5 rfl rfl (h_len (a := q) (scr := none) hS haq (Nat.lt_of_sub_eq_succ rfl)) rfl ?_
  refine gk_W_b 1 (16 ≤ x1) (t := 23) (e := 8) (l1 := [some (.ref (q + 1)), some (.int x1), none]) (st1 := []) rfl (fun hp1 => ?_) (fun hp1 => ?_)
  · have h := h.1 hp1
    refine gk_W_s 2 (pc1 := 25) (l1 := [some (.ref (q + 1)), some (.int 0), none]) (st1 := []) rfl ?_
    exact h
  · have h := h.2 hp1
    refine gk_W_s 3 (pc1 := 11) (l1 := [some (.ref (q + 1)), some (.int x1), none]) (st1 := [.int x1, .ref (q + 1), .int x1, .ref (q + 1)]) rfl ?_
    obtain ⟨hb2, h⟩ := h
    refine gk_W_h (i := .iaload) 12 rfl rfl (h_al (a := q) (scr := none) hS haq hb2) rfl ?_
    refine gk_W_s 4 (pc1 := 16) (l1 := [some (.ref (q + 1)), some (.int x1), none]) (st1 := [.int (((w_a w q).getD x1.toNatClampNeg 0) ||| (1 <<< (x1 &&& 31))), .int x1, .ref (q + 1)]) rfl ?_
    obtain ⟨hb3, h⟩ := h
    refine gk_W_h (i := .iastore) 17 rfl rfl (h_as (a := q) (t := 0) hS haq hb3 rfl) rfl ?_
    refine gk_W_s 2 (pc1 := 2) (l1 := [some (.ref (q + 1)), some (.int (x1 + 1)), none]) (st1 := []) rfl ?_
    exact h
/-- GrammarDesk$Facts.close([I)V, at 25 -/
theorem sg_46_25 {d : Nat} {rr : List gk_S} {w w' : gk_Wd} {r : gk_Res} (hS : gk_Sh rr w) {q : Nat} (haq : gp_lay[q]? = some (.inr (.inl (0, 16)))) (x1 : Int32)
    (h : ((16 ≤ x1 → (r = .inl none ∧ w' = w)) ∧ (¬ (16 ≤ x1) → gk_W none (d + 1) 46 33 [some (.ref (q + 1)), some (.int x1), some (.int 0)] [] w r w'))) :
    gk_W none (d + 1) 46 25 [some (.ref (q + 1)), some (.int x1), none] [] w r w' := by
  refine gk_W_s 2 (pc1 := 27) (l1 := [some (.ref (q + 1)), some (.int x1), none]) (st1 := [.ref (q + 1), .int x1]) rfl ?_
  refine gk_W_h (i := .arraylength) 28 rfl rfl (h_len (a := q) (scr := none) hS haq (Nat.lt_of_sub_eq_succ rfl)) rfl ?_
  refine gk_W_b 1 (16 ≤ x1) (t := 70) (e := 31) (l1 := [some (.ref (q + 1)), some (.int x1), none]) (st1 := []) rfl (fun hp1 => ?_) (fun hp1 => ?_)
  · have h := h.1 hp1
    obtain ⟨rfl, rfl⟩ := h
    exact gk_W_r (i := .return_) rfl rfl rfl
  · have h := h.2 hp1
    refine gk_W_s 2 (pc1 := 33) (l1 := [some (.ref (q + 1)), some (.int x1), some (.int 0)]) (st1 := []) rfl ?_
    exact h
/-- GrammarDesk$Facts.close([I)V, at 33 -/
theorem sg_46_33 {d : Nat} {rr : List gk_S} {w w' : gk_Wd} {r : gk_Res} (hS : gk_Sh rr w) {q : Nat} (haq : gp_lay[q]? = some (.inr (.inl (0, 16)))) (x1 : Int32) (x2 : Int32)
    (h : ((16 ≤ x2 → gk_W none (d + 1) 46 25 [some (.ref (q + 1)), some (.int (x1 + 1)), none] [] w r w') ∧ (¬ (16 ≤ x2) → (gk_out x2 16 = false ∧ (((f_36 ((w_a w q).getD x2.toNatClampNeg 0) x1) = 0 → gk_W none (d + 1) 46 33 [some (.ref (q + 1)), some (.int x1), some (.int (x2 + 1))] [] w r w') ∧ (¬ ((f_36 ((w_a w q).getD x2.toNatClampNeg 0) x1) = 0) → (gk_out x2 16 = false ∧ (gk_out x1 16 = false ∧ (gk_out x2 16 = false ∧ gk_W none (d + 1) 46 33 [some (.ref (q + 1)), some (.int x1), some (.int (x2 + 1))] [] (w_sa w q ((w_a w q).set x2.toNatClampNeg (((w_a w q).getD x2.toNatClampNeg 0) ||| ((w_a w q).getD x1.toNatClampNeg 0)))) r w'))))))))) :
    gk_W none (d + 1) 46 33 [some (.ref (q + 1)), some (.int x1), some (.int x2)] [] w r w' := by
  refine gk_W_s 2 (pc1 := 35) (l1 := [some (.ref (q + 1)), some (.int x1), some (.int x2)]) (st1 := [.ref (q + 1), .int x2]) rfl ?_
  refine gk_W_h (i := .arraylength) 36 rfl rfl (h_len (a := q) (scr := none) hS haq (Nat.lt_of_sub_eq_succ rfl)) rfl ?_
  refine gk_W_b 1 (16 ≤ x2) (t := 64) (e := 39) (l1 := [some (.ref (q + 1)), some (.int x1), some (.int x2)]) (st1 := []) rfl (fun hp1 => ?_) (fun hp1 => ?_)
  · have h := h.1 hp1
    refine gk_W_s 2 (pc1 := 25) (l1 := [some (.ref (q + 1)), some (.int (x1 + 1)), some (.int x2)]) (st1 := []) rfl ?_
    exact gk_W_le (gk_le_s (gk_le_s (gk_le_n (gk_le_0)))) h
  · have h := h.2 hp1
    refine gk_W_s 2 (pc1 := 41) (l1 := [some (.ref (q + 1)), some (.int x1), some (.int x2)]) (st1 := [.int x2, .ref (q + 1)]) rfl ?_
    obtain ⟨hb2, h⟩ := h
    refine gk_W_h (i := .iaload) 42 rfl rfl (h_al (a := q) (scr := none) hS haq hb2) rfl ?_
    refine gk_W_s 1 (pc1 := 43) (l1 := [some (.ref (q + 1)), some (.int x1), some (.int x2)]) (st1 := [.int x1, .int ((w_a w q).getD x2.toNatClampNeg 0)]) rfl ?_
    refine gk_W_c (i := .invokestatic 36) [.int (f_36 ((w_a w q).getD x2.toNatClampNeg 0) x1)] 46 rfl rfl rfl (f_36_E ((w_a w q).getD x2.toNatClampNeg 0) x1) rfl rfl ?_
    refine gk_W_b 1 ((f_36 ((w_a w q).getD x2.toNatClampNeg 0) x1) = 0) (t := 58) (e := 49) (l1 := [some (.ref (q + 1)), some (.int x1), some (.int x2)]) (st1 := []) rfl (fun hp3 => ?_) (fun hp3 => ?_)
    · have h := h.1 hp3
      refine gk_W_s 2 (pc1 := 33) (l1 := [some (.ref (q + 1)), some (.int x1), some (.int (x2 + 1))]) (st1 := []) rfl ?_
      exact h
    · have h := h.2 hp3
      refine gk_W_s 3 (pc1 := 52) (l1 := [some (.ref (q + 1)), some (.int x1), some (.int x2)]) (st1 := [.int x2, .ref (q + 1), .int x2, .ref (q + 1)]) rfl ?_
      obtain ⟨hb4, h⟩ := h
      refine gk_W_h (i := .iaload) 53 rfl rfl (h_al (a := q) (scr := none) hS haq hb4) rfl ?_
      refine gk_W_s 2 (pc1 := 55) (l1 := [some (.ref (q + 1)), some (.int x1), some (.int x2)]) (st1 := [.int x1, .ref (q + 1), .int ((w_a w q).getD x2.toNatClampNeg 0), .int x2, .ref (q + 1)]) rfl ?_
      obtain ⟨hb5, h⟩ := h
      refine gk_W_h (i := .iaload) 56 rfl rfl (h_al (a := q) (scr := none) hS haq hb5) rfl ?_
      refine gk_W_s 1 (pc1 := 57) (l1 := [some (.ref (q + 1)), some (.int x1), some (.int x2)]) (st1 := [.int (((w_a w q).getD x2.toNatClampNeg 0) ||| ((w_a w q).getD x1.toNatClampNeg 0)), .int x2, .ref (q + 1)]) rfl ?_
      obtain ⟨hb6, h⟩ := h
      refine gk_W_h (i := .iastore) 58 rfl rfl (h_as (a := q) (t := 0) hS haq hb6 rfl) rfl ?_
      refine gk_W_s 2 (pc1 := 33) (l1 := [some (.ref (q + 1)), some (.int x1), some (.int (x2 + 1))]) (st1 := []) rfl ?_
      exact h
/-- GrammarDesk$Facts.nullable(LGrammarDesk$RuleSet;)I, at 0 -/
theorem sg_50_0 {d : Nat} {rr : List gk_S} {w w' : gk_Wd} {r : gk_Res} (hS : gk_Sh rr w) {a : Nat} (haa : gk_rs a)
    (h : (∃ (v2 : Int32), gk_E d 32 [.ref (a + 1), .int 0] w (.inl (some (.int v2))) w ∧ (r = .inl (some (.int v2)) ∧ w' = w))) :
    gk_W none (d + 1) 50 0 [some (.ref (a + 1))] [] w r w' := by
  refine gk_W_s 2 (pc1 := 2) (l1 := [some (.ref (a + 1))]) (st1 := [.int 0, .ref (a + 1)]) rfl ?_
  obtain ⟨v2, hE1, h⟩ := h
  refine gk_W_c (i := .invokestatic 7) [.int v2] 5 rfl rfl rfl hE1 rfl rfl ?_
  obtain ⟨rfl, rfl⟩ := h
  exact gk_W_r (i := .ireturn) rfl rfl rfl
/-- GrammarDesk$Draft.faultyPlace()I, at 0 -/
theorem sg_85_0 {d : Nat} {rr : List gk_S} {w w' : gk_Wd} {r : gk_Res} (hS : gk_Sh rr w)
    (h : gk_W none (d + 2) 85 2 [some (.ref 2), some (.int 0)] [] w r w') :
    gk_W none (d + 2) 85 0 [some (.ref 2), none] [] w r w' := by
  refine gk_W_s 2 (pc1 := 2) (l1 := [some (.ref 2), some (.int 0)]) (st1 := []) rfl ?_
  exact h
/-- GrammarDesk$Draft.faultyPlace()I, at 2 -/
theorem sg_85_2 {d : Nat} {rr : List gk_S} {w w' : gk_Wd} {r : gk_Res} (hS : gk_Sh rr w) (x1 : Int32)
    (h : (((w_i w 1 1) ≤ x1 → ((2 ≤ (w_i w 1 1) → (r = .inl (some (.int ((-1)))) ∧ w' = w)) ∧ (¬ (2 ≤ (w_i w 1 1)) → (r = .inl (some (.int (w_i w 1 1))) ∧ w' = w)))) ∧ (¬ ((w_i w 1 1) ≤ x1) → (gk_out x1 9 = false ∧ ((¬ (f_86 ((w_a w 2).getD x1.toNatClampNeg 0) x1) = 0 → gk_W none (d + 2) 85 2 [some (.ref 2), some (.int (x1 + 1))] [] w r w') ∧ ((f_86 ((w_a w 2).getD x1.toNatClampNeg 0) x1) = 0 → (r = .inl (some (.int x1)) ∧ w' = w))))))) :
    gk_W none (d + 2) 85 2 [some (.ref 2), some (.int x1)] [] w r w' := by
  refine gk_W_s 2 (pc1 := 4) (l1 := [some (.ref 2), some (.int x1)]) (st1 := [.ref 2, .int x1]) rfl ?_
  refine gk_W_h (i := .getfield 15) 7 rfl rfl (h_gi (a := 1) (k := 1) hS ly_1 rfl) rfl ?_
  refine gk_W_b 1 ((w_i w 1 1) ≤ x1) (t := 31) (e := 10) (l1 := [some (.ref 2), some (.int x1)]) (st1 := []) rfl (fun hp1 => ?_) (fun hp1 => ?_)
  · have h := h.1 hp1
    refine gk_W_s 1 (pc1 := 32) (l1 := [some (.ref 2), some (.int x1)]) (st1 := [.ref 2]) rfl ?_
    refine gk_W_h (i := .getfield 15) 35 rfl rfl (h_gi (a := 1) (k := 1) hS ly_1 rfl) rfl ?_
    refine gk_W_b 2 (2 ≤ (w_i w 1 1)) (t := 46) (e := 39) (l1 := [some (.ref 2), some (.int x1)]) (st1 := []) rfl (fun hp2 => ?_) (fun hp2 => ?_)
    · have h := h.1 hp2
      refine gk_W_s 1 (pc1 := 47) (l1 := [some (.ref 2), some (.int x1)]) (st1 := [.int ((-1))]) rfl ?_
      obtain ⟨rfl, rfl⟩ := h
      exact gk_W_r (i := .ireturn) rfl rfl rfl
    · have h := h.2 hp2
      refine gk_W_s 1 (pc1 := 40) (l1 := [some (.ref 2), some (.int x1)]) (st1 := [.ref 2]) rfl ?_
      refine gk_W_h (i := .getfield 15) 43 rfl rfl (h_gi (a := 1) (k := 1) hS ly_1 rfl) rfl ?_
      refine gk_W_s 1 (pc1 := 47) (l1 := [some (.ref 2), some (.int x1)]) (st1 := [.int (w_i w 1 1)]) rfl ?_
      obtain ⟨rfl, rfl⟩ := h
      exact gk_W_r (i := .ireturn) rfl rfl rfl
  · have h := h.2 hp1
    refine gk_W_s 1 (pc1 := 11) (l1 := [some (.ref 2), some (.int x1)]) (st1 := [.ref 2]) rfl ?_
    refine gk_W_h (i := .getfield 11) 14 rfl rfl (h_gr (a := 1) (k := 0) (m := 3) hS ly_1 rfl) rfl ?_
    refine gk_W_s 1 (pc1 := 15) (l1 := [some (.ref 2), some (.int x1)]) (st1 := [.int x1, .ref 3]) rfl ?_
    obtain ⟨hb3, h⟩ := h
    refine gk_W_h (i := .caload) 16 rfl rfl (h_al (a := 2) (scr := none) hS ly_2 hb3) rfl ?_
    refine gk_W_s 1 (pc1 := 17) (l1 := [some (.ref 2), some (.int x1)]) (st1 := [.int x1, .int ((w_a w 2).getD x1.toNatClampNeg 0)]) rfl ?_
    refine gk_W_c (i := .invokestatic 19) [.int (f_86 ((w_a w 2).getD x1.toNatClampNeg 0) x1)] 20 rfl rfl rfl (f_86_E ((w_a w 2).getD x1.toNatClampNeg 0) x1) rfl rfl ?_
    refine gk_W_b 1 (¬ (f_86 ((w_a w 2).getD x1.toNatClampNeg 0) x1) = 0) (t := 25) (e := 23) (l1 := [some (.ref 2), some (.int x1)]) (st1 := []) rfl (fun hp4 => ?_) (fun hp4 => ?_)
    · have h := h.1 hp4
      refine gk_W_s 2 (pc1 := 2) (l1 := [some (.ref 2), some (.int (x1 + 1))]) (st1 := []) rfl ?_
      exact h
    · have h := h.2 (Decidable.not_not.mp hp4)
      refine gk_W_s 1 (pc1 := 24) (l1 := [some (.ref 2), some (.int x1)]) (st1 := [.int x1]) rfl ?_
      obtain ⟨rfl, rfl⟩ := h
      exact gk_W_r (i := .ireturn) rfl rfl rfl
/-- GrammarDesk$Draft.empty()V, at 0 -/
theorem sg_88_0 {d : Nat} {rr : List gk_S} {w w' : gk_Wd} {r : gk_Res} (hS : gk_Sh rr w)
    (h : (r = .inl none ∧ w' = w_si w 1 1 0)) :
    gk_W none d 88 0 [some (.ref 2)] [] w r w' := by
  refine gk_W_s 2 (pc1 := 2) (l1 := [some (.ref 2)]) (st1 := [.int 0, .ref 2]) rfl ?_
  refine gk_W_h (i := .putfield 15) 5 rfl rfl (h_pi (a := 1) (k := 1) (x := 0) hS ly_1 rfl rfl) rfl ?_
  obtain ⟨rfl, rfl⟩ := h
  exact gk_W_r (i := .return_) rfl rfl rfl
/-- GrammarDesk$Draft.toRule()J, at 0 -/
theorem sg_89_0 {d : Nat} {rr : List gk_S} {w w' : gk_Wd} {r : gk_Res} (hS : gk_Sh rr w)
    (h : gk_W none (d + 2) 89 15 [some (.ref 2), some (.long (f_90 (((w_a w 2).getD 0 0) - 65))), none, some (.int 2), none] [] w r w') :
    gk_W none (d + 2) 89 0 [some (.ref 2), none, none, none, none] [] w r w' := by
  refine gk_W_s 1 (pc1 := 1) (l1 := [some (.ref 2), none, none, none, none]) (st1 := [.ref 2]) rfl ?_
  refine gk_W_h (i := .getfield 11) 4 rfl rfl (h_gr (a := 1) (k := 0) (m := 3) hS ly_1 rfl) rfl ?_
  refine gk_W_s 1 (pc1 := 5) (l1 := [some (.ref 2), none, none, none, none]) (st1 := [.int 0, .ref 3]) rfl ?_
  refine gk_W_h (i := .caload) 6 rfl rfl (h_al (a := 2) (scr := none) hS ly_2 rfl) rfl ?_
  refine gk_W_s 2 (pc1 := 9) (l1 := [some (.ref 2), none, none, none, none]) (st1 := [.int (((w_a w 2).getD 0 0) - 65)]) rfl ?_
  refine gk_W_c (i := .invokestatic 32) [.long (f_90 (((w_a w 2).getD 0 0) - 65))] 12 rfl rfl rfl (f_90_E (((w_a w 2).getD 0 0) - 65)) rfl rfl ?_
  refine gk_W_s 3 (pc1 := 15) (l1 := [some (.ref 2), some (.long (f_90 (((w_a w 2).getD 0 0) - 65))), none, some (.int 2), none]) (st1 := []) rfl ?_
  exact h
/-- GrammarDesk$Draft.toRule()J, at 15 -/
theorem sg_89_15 {d : Nat} {rr : List gk_S} {w w' : gk_Wd} {r : gk_Res} (hS : gk_Sh rr w) (y1 : Int64) (x3 : Int32)
    (h : (((w_i w 1 1) ≤ x3 → (r = .inl (some (.long y1)) ∧ w' = w)) ∧ (¬ ((w_i w 1 1) ≤ x3) → (gk_out x3 9 = false ∧ (((f_67 ((w_a w 2).getD x3.toNatClampNeg 0)) = 0 → gk_W none (d + 2) 89 15 [some (.ref 2), some (.long (f_91 y1 (((w_a w 2).getD x3.toNatClampNeg 0) - 65))), none, some (.int (x3 + 1)), none] [] w r w') ∧ (¬ ((f_67 ((w_a w 2).getD x3.toNatClampNeg 0)) = 0) → gk_W none (d + 2) 89 15 [some (.ref 2), some (.long (f_91 y1 (f_68 ((w_a w 2).getD x3.toNatClampNeg 0)))), none, some (.int (x3 + 1)), none] [] w r w')))))) :
    gk_W none (d + 2) 89 15 [some (.ref 2), some (.long y1), none, some (.int x3), none] [] w r w' := by
  refine gk_W_s 2 (pc1 := 17) (l1 := [some (.ref 2), some (.long y1), none, some (.int x3), none]) (st1 := [.ref 2, .int x3]) rfl ?_
  refine gk_W_h (i := .getfield 15) 20 rfl rfl (h_gi (a := 1) (k := 1) hS ly_1 rfl) rfl ?_
  refine gk_W_b 1 ((w_i w 1 1) ≤ x3) (t := 63) (e := 23) (l1 := [some (.ref 2), some (.long y1), none, some (.int x3), none]) (st1 := []) rfl (fun hp1 => ?_) (fun hp1 => ?_)
  · have h := h.1 hp1
    refine gk_W_s 1 (pc1 := 64) (l1 := [some (.ref 2), some (.long y1), none, some (.int x3), none]) (st1 := [.long y1]) rfl ?_
    obtain ⟨rfl, rfl⟩ := h
    exact gk_W_r (i := .lreturn) rfl rfl rfl
  · have h := h.2 hp1
    refine gk_W_s 1 (pc1 := 24) (l1 := [some (.ref 2), some (.long y1), none, some (.int x3), none]) (st1 := [.ref 2]) rfl ?_
    refine gk_W_h (i := .getfield 11) 27 rfl rfl (h_gr (a := 1) (k := 0) (m := 3) hS ly_1 rfl) rfl ?_
    refine gk_W_s 1 (pc1 := 28) (l1 := [some (.ref 2), some (.long y1), none, some (.int x3), none]) (st1 := [.int x3, .ref 3]) rfl ?_
    obtain ⟨hb2, h⟩ := h
    refine gk_W_h (i := .caload) 29 rfl rfl (h_al (a := 2) (scr := none) hS ly_2 hb2) rfl ?_
    refine gk_W_s 3 (pc1 := 34) (l1 := [some (.ref 2), some (.long y1), none, some (.int x3), some (.int ((w_a w 2).getD x3.toNatClampNeg 0))]) (st1 := [.int ((w_a w 2).getD x3.toNatClampNeg 0), .long y1]) rfl ?_
    refine gk_W_c (i := .invokestatic 29) [.int (f_67 ((w_a w 2).getD x3.toNatClampNeg 0)), .long y1] 37 rfl rfl rfl (f_67_E ((w_a w 2).getD x3.toNatClampNeg 0)) rfl rfl ?_
    refine gk_W_b 1 ((f_67 ((w_a w 2).getD x3.toNatClampNeg 0)) = 0) (t := 48) (e := 40) (l1 := [some (.ref 2), some (.long y1), none, some (.int x3), some (.int ((w_a w 2).getD x3.toNatClampNeg 0))]) (st1 := [.long y1]) rfl (fun hp3 => ?_) (fun hp3 => ?_)
    · have h := h.1 hp3
      refine gk_W_s 3 (pc1 := 53) (l1 := [some (.ref 2), some (.long y1), none, some (.int x3), some (.int ((w_a w 2).getD x3.toNatClampNeg 0))]) (st1 := [.int (((w_a w 2).getD x3.toNatClampNeg 0) - 65), .long y1]) rfl ?_
      refine gk_W_c (i := .invokestatic 40) [.long (f_91 y1 (((w_a w 2).getD x3.toNatClampNeg 0) - 65))] 56 rfl rfl rfl (f_91_E y1 (((w_a w 2).getD x3.toNatClampNeg 0) - 65)) rfl rfl ?_
      refine gk_W_s 3 (pc1 := 15) (l1 := [some (.ref 2), some (.long (f_91 y1 (((w_a w 2).getD x3.toNatClampNeg 0) - 65))), none, some (.int (x3 + 1)), some (.int ((w_a w 2).getD x3.toNatClampNeg 0))]) (st1 := []) rfl ?_
      exact gk_W_le (gk_le_s (gk_le_s (gk_le_s (gk_le_s (gk_le_n (gk_le_0)))))) h
    · have h := h.2 hp3
      refine gk_W_s 1 (pc1 := 42) (l1 := [some (.ref 2), some (.long y1), none, some (.int x3), some (.int ((w_a w 2).getD x3.toNatClampNeg 0))]) (st1 := [.int ((w_a w 2).getD x3.toNatClampNeg 0), .long y1]) rfl ?_
      refine gk_W_c (i := .invokestatic 36) [.int (f_68 ((w_a w 2).getD x3.toNatClampNeg 0)), .long y1] 45 rfl rfl rfl (f_68_E ((w_a w 2).getD x3.toNatClampNeg 0)) rfl rfl ?_
      refine gk_W_s 1 (pc1 := 53) (l1 := [some (.ref 2), some (.long y1), none, some (.int x3), some (.int ((w_a w 2).getD x3.toNatClampNeg 0))]) (st1 := [.int (f_68 ((w_a w 2).getD x3.toNatClampNeg 0)), .long y1]) rfl ?_
      refine gk_W_c (i := .invokestatic 40) [.long (f_91 y1 (f_68 ((w_a w 2).getD x3.toNatClampNeg 0)))] 56 rfl rfl rfl (f_91_E y1 (f_68 ((w_a w 2).getD x3.toNatClampNeg 0))) rfl rfl ?_
      refine gk_W_s 3 (pc1 := 15) (l1 := [some (.ref 2), some (.long (f_91 y1 (f_68 ((w_a w 2).getD x3.toNatClampNeg 0)))), none, some (.int (x3 + 1)), some (.int ((w_a w 2).getD x3.toNatClampNeg 0))]) (st1 := []) rfl ?_
      exact gk_W_le (gk_le_s (gk_le_s (gk_le_s (gk_le_s (gk_le_n (gk_le_0)))))) h
/-- GrammarDesk$RuleSet.has(J)Z, at 0 -/
theorem sg_92_0 {d : Nat} {rr : List gk_S} {w w' : gk_Wd} {r : gk_Res} (hS : gk_Sh rr w) {a : Nat} (haa : gk_rs a) (y1 : Int64)
    (h : (∃ (v2 : Int32), gk_E d 93 [.ref (a + 1), .long y1] w (.inl (some (.int v2))) w ∧ (((w_i w a 1) ≤ v2 → (r = .inl (some (.int 0)) ∧ w' = w)) ∧ (¬ ((w_i w a 1) ≤ v2) → (gk_out v2 60 = false ∧ ((¬ (lg_cmp ((w_l w (a + 1)).getD v2.toNatClampNeg 0) y1) = 0 → (r = .inl (some (.int 0)) ∧ w' = w)) ∧ ((lg_cmp ((w_l w (a + 1)).getD v2.toNatClampNeg 0) y1) = 0 → (r = .inl (some (.int 1)) ∧ w' = w)))))))) :
    gk_W none (d + 1) 92 0 [some (.ref (a + 1)), some (.long y1), none, none] [] w r w' := by
  refine gk_W_s 2 (pc1 := 2) (l1 := [some (.ref (a + 1)), some (.long y1), none, none]) (st1 := [.long y1, .ref (a + 1)]) rfl ?_
  obtain ⟨v2, hE1, h⟩ := h
  refine gk_W_c (i := .invokevirtual 19) [.int v2] 5 rfl rfl (c_v (a := a) hS haa.1 rfl rfl (Nat.le_of_ble_eq_true rfl)) hE1 rfl rfl ?_
  refine gk_W_s 3 (pc1 := 8) (l1 := [some (.ref (a + 1)), some (.long y1), none, some (.int v2)]) (st1 := [.ref (a + 1), .int v2]) rfl ?_
  refine gk_W_h (i := .getfield 15) 11 rfl rfl (h_gi (a := a) (k := 1) hS haa.1 rfl) rfl ?_
  refine gk_W_b 1 ((w_i w a 1) ≤ v2) (t := 29) (e := 14) (l1 := [some (.ref (a + 1)), some (.long y1), none, some (.int v2)]) (st1 := []) rfl (fun hp3 => ?_) (fun hp3 => ?_)
  · have h := h.1 hp3
    refine gk_W_s 1 (pc1 := 30) (l1 := [some (.ref (a + 1)), some (.long y1), none, some (.int v2)]) (st1 := [.int 0]) rfl ?_
    obtain ⟨rfl, rfl⟩ := h
    exact gk_W_r (i := .ireturn) rfl rfl rfl
  · have h := h.2 hp3
    refine gk_W_s 1 (pc1 := 15) (l1 := [some (.ref (a + 1)), some (.long y1), none, some (.int v2)]) (st1 := [.ref (a + 1)]) rfl ?_
    refine gk_W_h (i := .getfield 11) 18 rfl rfl (h_gr (a := a) (k := 0) (m := (a + 1 + 1)) hS haa.1 rfl) rfl ?_
    refine gk_W_s 1 (pc1 := 19) (l1 := [some (.ref (a + 1)), some (.long y1), none, some (.int v2)]) (st1 := [.int v2, .ref (a + 1 + 1)]) rfl ?_
    obtain ⟨hb4, h⟩ := h
    refine gk_W_h (i := .laload) 20 rfl rfl (h_ll (a := a + 1) hS haa.2 hb4) rfl ?_
    refine gk_W_b 3 (¬ (lg_cmp ((w_l w (a + 1)).getD v2.toNatClampNeg 0) y1) = 0) (t := 29) (e := 25) (l1 := [some (.ref (a + 1)), some (.long y1), none, some (.int v2)]) (st1 := []) rfl (fun hp5 => ?_) (fun hp5 => ?_)
    · have h := h.1 hp5
      refine gk_W_s 1 (pc1 := 30) (l1 := [some (.ref (a + 1)), some (.long y1), none, some (.int v2)]) (st1 := [.int 0]) rfl ?_
      obtain ⟨rfl, rfl⟩ := h
      exact gk_W_r (i := .ireturn) rfl rfl rfl
    · have h := h.2 (Decidable.not_not.mp hp5)
      refine gk_W_s 2 (pc1 := 30) (l1 := [some (.ref (a + 1)), some (.long y1), none, some (.int v2)]) (st1 := [.int 1]) rfl ?_
      obtain ⟨rfl, rfl⟩ := h
      exact gk_W_r (i := .ireturn) rfl rfl rfl
/-- GrammarDesk$RuleSet.placeOf(J)I, at 0 -/
theorem sg_93_0 {d : Nat} {rr : List gk_S} {w w' : gk_Wd} {r : gk_Res} (hS : gk_Sh rr w) {a : Nat} (haa : gk_rs a) (y1 : Int64)
    (h : gk_W none d 93 2 [some (.ref (a + 1)), some (.long y1), none, some (.int 0)] [] w r w') :
    gk_W none d 93 0 [some (.ref (a + 1)), some (.long y1), none, none] [] w r w' := by
  refine gk_W_s 2 (pc1 := 2) (l1 := [some (.ref (a + 1)), some (.long y1), none, some (.int 0)]) (st1 := []) rfl ?_
  exact h
/-- GrammarDesk$RuleSet.placeOf(J)I, at 2 -/
theorem sg_93_2 {d : Nat} {rr : List gk_S} {w w' : gk_Wd} {r : gk_Res} (hS : gk_Sh rr w) {a : Nat} (haa : gk_rs a) (y1 : Int64) (x3 : Int32)
    (h : (((w_i w a 1) ≤ x3 → (r = .inl (some (.int x3)) ∧ w' = w)) ∧ (¬ ((w_i w a 1) ≤ x3) → (gk_out x3 60 = false ∧ ((0 ≤ (lg_cmp ((w_l w (a + 1)).getD x3.toNatClampNeg 0) y1) → (r = .inl (some (.int x3)) ∧ w' = w)) ∧ (¬ (0 ≤ (lg_cmp ((w_l w (a + 1)).getD x3.toNatClampNeg 0) y1)) → gk_W none d 93 2 [some (.ref (a + 1)), some (.long y1), none, some (.int (x3 + 1))] [] w r w')))))) :
    gk_W none d 93 2 [some (.ref (a + 1)), some (.long y1), none, some (.int x3)] [] w r w' := by
  refine gk_W_s 2 (pc1 := 4) (l1 := [some (.ref (a + 1)), some (.long y1), none, some (.int x3)]) (st1 := [.ref (a + 1), .int x3]) rfl ?_
  refine gk_W_h (i := .getfield 15) 7 rfl rfl (h_gi (a := a) (k := 1) hS haa.1 rfl) rfl ?_
  refine gk_W_b 1 ((w_i w a 1) ≤ x3) (t := 27) (e := 10) (l1 := [some (.ref (a + 1)), some (.long y1), none, some (.int x3)]) (st1 := []) rfl (fun hp1 => ?_) (fun hp1 => ?_)
  · have h := h.1 hp1
    refine gk_W_s 1 (pc1 := 28) (l1 := [some (.ref (a + 1)), some (.long y1), none, some (.int x3)]) (st1 := [.int x3]) rfl ?_
    obtain ⟨rfl, rfl⟩ := h
    exact gk_W_r (i := .ireturn) rfl rfl rfl
  · have h := h.2 hp1
    refine gk_W_s 1 (pc1 := 11) (l1 := [some (.ref (a + 1)), some (.long y1), none, some (.int x3)]) (st1 := [.ref (a + 1)]) rfl ?_
    refine gk_W_h (i := .getfield 11) 14 rfl rfl (h_gr (a := a) (k := 0) (m := (a + 1 + 1)) hS haa.1 rfl) rfl ?_
    refine gk_W_s 1 (pc1 := 15) (l1 := [some (.ref (a + 1)), some (.long y1), none, some (.int x3)]) (st1 := [.int x3, .ref (a + 1 + 1)]) rfl ?_
    obtain ⟨hb2, h⟩ := h
    refine gk_W_h (i := .laload) 16 rfl rfl (h_ll (a := a + 1) hS haa.2 hb2) rfl ?_
    refine gk_W_b 3 (0 ≤ (lg_cmp ((w_l w (a + 1)).getD x3.toNatClampNeg 0) y1)) (t := 27) (e := 21) (l1 := [some (.ref (a + 1)), some (.long y1), none, some (.int x3)]) (st1 := []) rfl (fun hp3 => ?_) (fun hp3 => ?_)
    · have h := h.1 hp3
      refine gk_W_s 1 (pc1 := 28) (l1 := [some (.ref (a + 1)), some (.long y1), none, some (.int x3)]) (st1 := [.int x3]) rfl ?_
      obtain ⟨rfl, rfl⟩ := h
      exact gk_W_r (i := .ireturn) rfl rfl rfl
    · have h := h.2 hp3
      refine gk_W_s 2 (pc1 := 2) (l1 := [some (.ref (a + 1)), some (.long y1), none, some (.int (x3 + 1))]) (st1 := []) rfl ?_
      exact h
/-- GrammarDesk$RuleSet.put(J)Z, at 0 -/
theorem sg_94_0 {d : Nat} {rr : List gk_S} {w w' : gk_Wd} {r : gk_Res} (hS : gk_Sh rr w) {a : Nat} (haa : gk_rs a) (y1 : Int64)
    (h : ((¬ (lg_cmp y1 ((-1))) = 0 → (∃ (v3 : Int32), gk_E d 93 [.ref (a + 1), .long y1] w (.inl (some (.int v3))) w ∧ (((w_i w a 1) ≤ v3 → (((w_i w a 1) < 60 → ((¬ v3 < 0 ∧ ¬ (v3 + 1) < 0 ∧ ¬ ((w_i w a 1) - v3) < 0 ∧ v3.toNatClampNeg + ((w_i w a 1) - v3).toNatClampNeg ≤ 60 ∧ (v3 + 1).toNatClampNeg + ((w_i w a 1) - v3).toNatClampNeg ≤ 60) ∧ (gk_out v3 60 = false ∧ (r = .inl (some (.int 1)) ∧ w' = w_si (w_sl (w_sl w (a + 1) (gk_cpy (w_l w (a + 1)) (w_l w (a + 1)) v3.toNatClampNeg (v3 + 1).toNatClampNeg ((w_i w a 1) - v3).toNatClampNeg)) (a + 1) ((w_l (w_sl w (a + 1) (gk_cpy (w_l w (a + 1)) (w_l w (a + 1)) v3.toNatClampNeg (v3 + 1).toNatClampNeg ((w_i w a 1) - v3).toNatClampNeg)) (a + 1)).set v3.toNatClampNeg y1)) a 1 ((w_i (w_sl (w_sl w (a + 1) (gk_cpy (w_l w (a + 1)) (w_l w (a + 1)) v3.toNatClampNeg (v3 + 1).toNatClampNeg ((w_i w a 1) - v3).toNatClampNeg)) (a + 1) ((w_l (w_sl w (a + 1) (gk_cpy (w_l w (a + 1)) (w_l w (a + 1)) v3.toNatClampNeg (v3 + 1).toNatClampNeg ((w_i w a 1) - v3).toNatClampNeg)) (a + 1)).set v3.toNatClampNeg y1)) a 1) + 1))))) ∧ (¬ ((w_i w a 1) < 60) → (r = .inl (some (.int 0)) ∧ w' = w)))) ∧ (¬ ((w_i w a 1) ≤ v3) → (gk_out v3 60 = false ∧ ((¬ (lg_cmp ((w_l w (a + 1)).getD v3.toNatClampNeg 0) y1) = 0 → (((w_i w a 1) < 60 → ((¬ v3 < 0 ∧ ¬ (v3 + 1) < 0 ∧ ¬ ((w_i w a 1) - v3) < 0 ∧ v3.toNatClampNeg + ((w_i w a 1) - v3).toNatClampNeg ≤ 60 ∧ (v3 + 1).toNatClampNeg + ((w_i w a 1) - v3).toNatClampNeg ≤ 60) ∧ (gk_out v3 60 = false ∧ (r = .inl (some (.int 1)) ∧ w' = w_si (w_sl (w_sl w (a + 1) (gk_cpy (w_l w (a + 1)) (w_l w (a + 1)) v3.toNatClampNeg (v3 + 1).toNatClampNeg ((w_i w a 1) - v3).toNatClampNeg)) (a + 1) ((w_l (w_sl w (a + 1) (gk_cpy (w_l w (a + 1)) (w_l w (a + 1)) v3.toNatClampNeg (v3 + 1).toNatClampNeg ((w_i w a 1) - v3).toNatClampNeg)) (a + 1)).set v3.toNatClampNeg y1)) a 1 ((w_i (w_sl (w_sl w (a + 1) (gk_cpy (w_l w (a + 1)) (w_l w (a + 1)) v3.toNatClampNeg (v3 + 1).toNatClampNeg ((w_i w a 1) - v3).toNatClampNeg)) (a + 1) ((w_l (w_sl w (a + 1) (gk_cpy (w_l w (a + 1)) (w_l w (a + 1)) v3.toNatClampNeg (v3 + 1).toNatClampNeg ((w_i w a 1) - v3).toNatClampNeg)) (a + 1)).set v3.toNatClampNeg y1)) a 1) + 1))))) ∧ (¬ ((w_i w a 1) < 60) → (r = .inl (some (.int 0)) ∧ w' = w)))) ∧ ((lg_cmp ((w_l w (a + 1)).getD v3.toNatClampNeg 0) y1) = 0 → (r = .inl (some (.int 1)) ∧ w' = w)))))))) ∧ ((lg_cmp y1 ((-1))) = 0 → (r = .inl (some (.int 0)) ∧ w' = w)))) :
    gk_W none (d + 1) 94 0 [some (.ref (a + 1)), some (.long y1), none, none] [] w r w' := by
  refine gk_W_s 1 (pc1 := 1) (l1 := [some (.ref (a + 1)), some (.long y1), none, none]) (st1 := [.long y1]) rfl ?_
  refine gk_W_h (i := .ldc2_w 25) 4 rfl rfl rfl rfl ?_
  refine gk_W_b 2 (¬ (lg_cmp y1 ((-1))) = 0) (t := 10) (e := 8) (l1 := [some (.ref (a + 1)), some (.long y1), none, none]) (st1 := []) rfl (fun hp1 => ?_) (fun hp1 => ?_)
  · have h := h.1 hp1
    refine gk_W_s 2 (pc1 := 12) (l1 := [some (.ref (a + 1)), some (.long y1), none, none]) (st1 := [.long y1, .ref (a + 1)]) rfl ?_
    obtain ⟨v3, hE2, h⟩ := h
    refine gk_W_c (i := .invokevirtual 19) [.int v3] 15 rfl rfl (c_v (a := a) hS haa.1 rfl rfl (Nat.le_of_ble_eq_true rfl)) hE2 rfl rfl ?_
    refine gk_W_s 3 (pc1 := 18) (l1 := [some (.ref (a + 1)), some (.long y1), none, some (.int v3)]) (st1 := [.ref (a + 1), .int v3]) rfl ?_
    refine gk_W_h (i := .getfield 15) 21 rfl rfl (h_gi (a := a) (k := 1) hS haa.1 rfl) rfl ?_
    refine gk_W_b 1 ((w_i w a 1) ≤ v3) (t := 37) (e := 24) (l1 := [some (.ref (a + 1)), some (.long y1), none, some (.int v3)]) (st1 := []) rfl (fun hp4 => ?_) (fun hp4 => ?_)
    · have h := h.1 hp4
      refine gk_W_s 1 (pc1 := 38) (l1 := [some (.ref (a + 1)), some (.long y1), none, some (.int v3)]) (st1 := [.ref (a + 1)]) rfl ?_
      refine gk_W_h (i := .getfield 15) 41 rfl rfl (h_gi (a := a) (k := 1) hS haa.1 rfl) rfl ?_
      refine gk_W_b 2 ((w_i w a 1) < 60) (t := 48) (e := 46) (l1 := [some (.ref (a + 1)), some (.long y1), none, some (.int v3)]) (st1 := []) rfl (fun hp5 => ?_) (fun hp5 => ?_)
      · have h := h.1 hp5
        refine gk_W_s 1 (pc1 := 49) (l1 := [some (.ref (a + 1)), some (.long y1), none, some (.int v3)]) (st1 := [.ref (a + 1)]) rfl ?_
        refine gk_W_h (i := .getfield 11) 52 rfl rfl (h_gr (a := a) (k := 0) (m := (a + 1 + 1)) hS haa.1 rfl) rfl ?_
        refine gk_W_s 2 (pc1 := 54) (l1 := [some (.ref (a + 1)), some (.long y1), none, some (.int v3)]) (st1 := [.ref (a + 1), .int v3, .ref (a + 1 + 1)]) rfl ?_
        refine gk_W_h (i := .getfield 11) 57 rfl rfl (h_gr (a := a) (k := 0) (m := (a + 1 + 1)) hS haa.1 rfl) rfl ?_
        refine gk_W_s 4 (pc1 := 61) (l1 := [some (.ref (a + 1)), some (.long y1), none, some (.int v3)]) (st1 := [.ref (a + 1), .int (v3 + 1), .ref (a + 1 + 1), .int v3, .ref (a + 1 + 1)]) rfl ?_
        refine gk_W_h (i := .getfield 15) 64 rfl rfl (h_gi (a := a) (k := 1) hS haa.1 rfl) rfl ?_
        refine gk_W_s 2 (pc1 := 66) (l1 := [some (.ref (a + 1)), some (.long y1), none, some (.int v3)]) (st1 := [.int ((w_i w a 1) - v3), .int (v3 + 1), .ref (a + 1 + 1), .int v3, .ref (a + 1 + 1)]) rfl ?_
        obtain ⟨hb6, h⟩ := h
        refine gk_W_h (i := .invokestatic 27) 69 rfl rfl (h_cpy (a := a + 1) (b := a + 1) (sp := v3) (dp := v3 + 1) (m := (w_i w a 1) - v3) hS haa.2 haa.2 hb6 (Nat.le_of_ble_eq_true rfl)) rfl ?_
        refine gk_W_s 1 (pc1 := 70) (l1 := [some (.ref (a + 1)), some (.long y1), none, some (.int v3)]) (st1 := [.ref (a + 1)]) rfl ?_
        refine gk_W_h (i := .getfield 11) 73 rfl rfl (h_gr (a := a) (k := 0) (m := (a + 1 + 1)) (sh_cpy hS haa.2 haa.2 ⟨hb6.2.2.2.1, hb6.2.2.2.2⟩) haa.1 rfl) rfl ?_
        refine gk_W_s 2 (pc1 := 75) (l1 := [some (.ref (a + 1)), some (.long y1), none, some (.int v3)]) (st1 := [.long y1, .int v3, .ref (a + 1 + 1)]) rfl ?_
        obtain ⟨hb7, h⟩ := h
        refine gk_W_h (i := .lastore) 76 rfl rfl (h_ls (a := a + 1) (sh_cpy hS haa.2 haa.2 ⟨hb6.2.2.2.1, hb6.2.2.2.2⟩) haa.2 hb7) rfl ?_
        refine gk_W_s 2 (pc1 := 78) (l1 := [some (.ref (a + 1)), some (.long y1), none, some (.int v3)]) (st1 := [.ref (a + 1), .ref (a + 1)]) rfl ?_
        refine gk_W_h (i := .getfield 15) 81 rfl rfl (h_gi (a := a) (k := 1) (sh_ls (sh_cpy hS haa.2 haa.2 ⟨hb6.2.2.2.1, hb6.2.2.2.2⟩) haa.2 (v3.toNatClampNeg) y1) haa.1 rfl) rfl ?_
        refine gk_W_s 2 (pc1 := 83) (l1 := [some (.ref (a + 1)), some (.long y1), none, some (.int v3)]) (st1 := [.int ((w_i (w_sl (w_sl w (a + 1) (gk_cpy (w_l w (a + 1)) (w_l w (a + 1)) v3.toNatClampNeg (v3 + 1).toNatClampNeg ((w_i w a 1) - v3).toNatClampNeg)) (a + 1) ((w_l (w_sl w (a + 1) (gk_cpy (w_l w (a + 1)) (w_l w (a + 1)) v3.toNatClampNeg (v3 + 1).toNatClampNeg ((w_i w a 1) - v3).toNatClampNeg)) (a + 1)).set v3.toNatClampNeg y1)) a 1) + 1), .ref (a + 1)]) rfl ?_
        refine gk_W_h (i := .putfield 15) 86 rfl rfl (h_pi (a := a) (k := 1) (x := (w_i (w_sl (w_sl w (a + 1) (gk_cpy (w_l w (a + 1)) (w_l w (a + 1)) v3.toNatClampNeg (v3 + 1).toNatClampNeg ((w_i w a 1) - v3).toNatClampNeg)) (a + 1) ((w_l (w_sl w (a + 1) (gk_cpy (w_l w (a + 1)) (w_l w (a + 1)) v3.toNatClampNeg (v3 + 1).toNatClampNeg ((w_i w a 1) - v3).toNatClampNeg)) (a + 1)).set v3.toNatClampNeg y1)) a 1) + 1) (sh_ls (sh_cpy hS haa.2 haa.2 ⟨hb6.2.2.2.1, hb6.2.2.2.2⟩) haa.2 (v3.toNatClampNeg) y1) haa.1 rfl rfl) rfl ?_
        refine gk_W_s 1 (pc1 := 87) (l1 := [some (.ref (a + 1)), some (.long y1), none, some (.int v3)]) (st1 := [.int 1]) rfl ?_
        obtain ⟨rfl, rfl⟩ := h
        exact gk_W_r (i := .ireturn) rfl rfl rfl
      · have h := h.2 hp5
        refine gk_W_s 1 (pc1 := 47) (l1 := [some (.ref (a + 1)), some (.long y1), none, some (.int v3)]) (st1 := [.int 0]) rfl ?_
        obtain ⟨rfl, rfl⟩ := h
        exact gk_W_r (i := .ireturn) rfl rfl rfl
    · have h := h.2 hp4
      refine gk_W_s 1 (pc1 := 25) (l1 := [some (.ref (a + 1)), some (.long y1), none, some (.int v3)]) (st1 := [.ref (a + 1)]) rfl ?_
      refine gk_W_h (i := .getfield 11) 28 rfl rfl (h_gr (a := a) (k := 0) (m := (a + 1 + 1)) hS haa.1 rfl) rfl ?_
      refine gk_W_s 1 (pc1 := 29) (l1 := [some (.ref (a + 1)), some (.long y1), none, some (.int v3)]) (st1 := [.int v3, .ref (a + 1 + 1)]) rfl ?_
      obtain ⟨hb8, h⟩ := h
      refine gk_W_h (i := .laload) 30 rfl rfl (h_ll (a := a + 1) hS haa.2 hb8) rfl ?_
      refine gk_W_b 3 (¬ (lg_cmp ((w_l w (a + 1)).getD v3.toNatClampNeg 0) y1) = 0) (t := 37) (e := 35) (l1 := [some (.ref (a + 1)), some (.long y1), none, some (.int v3)]) (st1 := []) rfl (fun hp9 => ?_) (fun hp9 => ?_)
      · have h := h.1 hp9
        refine gk_W_s 1 (pc1 := 38) (l1 := [some (.ref (a + 1)), some (.long y1), none, some (.int v3)]) (st1 := [.ref (a + 1)]) rfl ?_
        refine gk_W_h (i := .getfield 15) 41 rfl rfl (h_gi (a := a) (k := 1) hS haa.1 rfl) rfl ?_
        refine gk_W_b 2 ((w_i w a 1) < 60) (t := 48) (e := 46) (l1 := [some (.ref (a + 1)), some (.long y1), none, some (.int v3)]) (st1 := []) rfl (fun hp10 => ?_) (fun hp10 => ?_)
        · have h := h.1 hp10
          refine gk_W_s 1 (pc1 := 49) (l1 := [some (.ref (a + 1)), some (.long y1), none, some (.int v3)]) (st1 := [.ref (a + 1)]) rfl ?_
          refine gk_W_h (i := .getfield 11) 52 rfl rfl (h_gr (a := a) (k := 0) (m := (a + 1 + 1)) hS haa.1 rfl) rfl ?_
          refine gk_W_s 2 (pc1 := 54) (l1 := [some (.ref (a + 1)), some (.long y1), none, some (.int v3)]) (st1 := [.ref (a + 1), .int v3, .ref (a + 1 + 1)]) rfl ?_
          refine gk_W_h (i := .getfield 11) 57 rfl rfl (h_gr (a := a) (k := 0) (m := (a + 1 + 1)) hS haa.1 rfl) rfl ?_
          refine gk_W_s 4 (pc1 := 61) (l1 := [some (.ref (a + 1)), some (.long y1), none, some (.int v3)]) (st1 := [.ref (a + 1), .int (v3 + 1), .ref (a + 1 + 1), .int v3, .ref (a + 1 + 1)]) rfl ?_
          refine gk_W_h (i := .getfield 15) 64 rfl rfl (h_gi (a := a) (k := 1) hS haa.1 rfl) rfl ?_
          refine gk_W_s 2 (pc1 := 66) (l1 := [some (.ref (a + 1)), some (.long y1), none, some (.int v3)]) (st1 := [.int ((w_i w a 1) - v3), .int (v3 + 1), .ref (a + 1 + 1), .int v3, .ref (a + 1 + 1)]) rfl ?_
          obtain ⟨hb11, h⟩ := h
          refine gk_W_h (i := .invokestatic 27) 69 rfl rfl (h_cpy (a := a + 1) (b := a + 1) (sp := v3) (dp := v3 + 1) (m := (w_i w a 1) - v3) hS haa.2 haa.2 hb11 (Nat.le_of_ble_eq_true rfl)) rfl ?_
          refine gk_W_s 1 (pc1 := 70) (l1 := [some (.ref (a + 1)), some (.long y1), none, some (.int v3)]) (st1 := [.ref (a + 1)]) rfl ?_
          refine gk_W_h (i := .getfield 11) 73 rfl rfl (h_gr (a := a) (k := 0) (m := (a + 1 + 1)) (sh_cpy hS haa.2 haa.2 ⟨hb11.2.2.2.1, hb11.2.2.2.2⟩) haa.1 rfl) rfl ?_
          refine gk_W_s 2 (pc1 := 75) (l1 := [some (.ref (a + 1)), some (.long y1), none, some (.int v3)]) (st1 := [.long y1, .int v3, .ref (a + 1 + 1)]) rfl ?_
          obtain ⟨hb12, h⟩ := h
          refine gk_W_h (i := .lastore) 76 rfl rfl (h_ls (a := a + 1) (sh_cpy hS haa.2 haa.2 ⟨hb11.2.2.2.1, hb11.2.2.2.2⟩) haa.2 hb12) rfl ?_
          refine gk_W_s 2 (pc1 := 78) (l1 := [some (.ref (a + 1)), some (.long y1), none, some (.int v3)]) (st1 := [.ref (a + 1), .ref (a + 1)]) rfl ?_
          refine gk_W_h (i := .getfield 15) 81 rfl rfl (h_gi (a := a) (k := 1) (sh_ls (sh_cpy hS haa.2 haa.2 ⟨hb11.2.2.2.1, hb11.2.2.2.2⟩) haa.2 (v3.toNatClampNeg) y1) haa.1 rfl) rfl ?_
          refine gk_W_s 2 (pc1 := 83) (l1 := [some (.ref (a + 1)), some (.long y1), none, some (.int v3)]) (st1 := [.int ((w_i (w_sl (w_sl w (a + 1) (gk_cpy (w_l w (a + 1)) (w_l w (a + 1)) v3.toNatClampNeg (v3 + 1).toNatClampNeg ((w_i w a 1) - v3).toNatClampNeg)) (a + 1) ((w_l (w_sl w (a + 1) (gk_cpy (w_l w (a + 1)) (w_l w (a + 1)) v3.toNatClampNeg (v3 + 1).toNatClampNeg ((w_i w a 1) - v3).toNatClampNeg)) (a + 1)).set v3.toNatClampNeg y1)) a 1) + 1), .ref (a + 1)]) rfl ?_
          refine gk_W_h (i := .putfield 15) 86 rfl rfl (h_pi (a := a) (k := 1) (x := (w_i (w_sl (w_sl w (a + 1) (gk_cpy (w_l w (a + 1)) (w_l w (a + 1)) v3.toNatClampNeg (v3 + 1).toNatClampNeg ((w_i w a 1) - v3).toNatClampNeg)) (a + 1) ((w_l (w_sl w (a + 1) (gk_cpy (w_l w (a + 1)) (w_l w (a + 1)) v3.toNatClampNeg (v3 + 1).toNatClampNeg ((w_i w a 1) - v3).toNatClampNeg)) (a + 1)).set v3.toNatClampNeg y1)) a 1) + 1) (sh_ls (sh_cpy hS haa.2 haa.2 ⟨hb11.2.2.2.1, hb11.2.2.2.2⟩) haa.2 (v3.toNatClampNeg) y1) haa.1 rfl rfl) rfl ?_
          refine gk_W_s 1 (pc1 := 87) (l1 := [some (.ref (a + 1)), some (.long y1), none, some (.int v3)]) (st1 := [.int 1]) rfl ?_
          obtain ⟨rfl, rfl⟩ := h
          exact gk_W_r (i := .ireturn) rfl rfl rfl
        · have h := h.2 hp10
          refine gk_W_s 1 (pc1 := 47) (l1 := [some (.ref (a + 1)), some (.long y1), none, some (.int v3)]) (st1 := [.int 0]) rfl ?_
          obtain ⟨rfl, rfl⟩ := h
          exact gk_W_r (i := .ireturn) rfl rfl rfl
      · have h := h.2 (Decidable.not_not.mp hp9)
        refine gk_W_s 1 (pc1 := 36) (l1 := [some (.ref (a + 1)), some (.long y1), none, some (.int v3)]) (st1 := [.int 1]) rfl ?_
        obtain ⟨rfl, rfl⟩ := h
        exact gk_W_r (i := .ireturn) rfl rfl rfl
  · have h := h.2 (Decidable.not_not.mp hp1)
    refine gk_W_s 1 (pc1 := 9) (l1 := [some (.ref (a + 1)), some (.long y1), none, none]) (st1 := [.int 0]) rfl ?_
    obtain ⟨rfl, rfl⟩ := h
    exact gk_W_r (i := .ireturn) rfl rfl rfl
/-- GrammarDesk$Cleaner.removeEmpty(LGrammarDesk$RuleSet;)Z, at 0 -/
theorem sg_97_0 {d : Nat} {rr : List gk_S} {w w' : gk_Wd} {r : gk_Res} (hS : gk_Sh rr w) {a : Nat} (haa : gk_rs a)
    (h : (∃ (v2 : Int32), gk_E (d + 1) 50 [.ref (a + 1)] w (.inl (some (.int v2))) w ∧ gk_W none (d + 2) 97 7 [none, some (.ref (a + 1)), some (.int v2), some (.int 1)] [] w r w')) :
    gk_W none (d + 2) 97 0 [some (.ref 8), some (.ref (a + 1)), none, none] [] w r w' := by
  refine gk_W_s 1 (pc1 := 1) (l1 := [some (.ref 8), some (.ref (a + 1)), none, none]) (st1 := [.ref (a + 1)]) rfl ?_
  obtain ⟨v2, hE1, h⟩ := h
  refine gk_W_c (i := .invokestatic 22) [.int v2] 4 rfl rfl rfl hE1 rfl rfl ?_
  refine gk_W_s 3 (pc1 := 7) (l1 := [some (.ref 8), some (.ref (a + 1)), some (.int v2), some (.int 1)]) (st1 := []) rfl ?_
  exact gk_W_le (gk_le_n (gk_le_s (gk_le_s (gk_le_s (gk_le_0))))) h
/-- GrammarDesk$Cleaner.removeEmpty(LGrammarDesk$RuleSet;)Z, at 7 -/
theorem sg_97_7 {d : Nat} {rr : List gk_S} {w w' : gk_Wd} {r : gk_Res} (hS : gk_Sh rr w) {a : Nat} (haa : gk_rs a) (x2 : Int32) (x3 : Int32)
    (h : ((60 < x3 → gk_W none (d + 2) 97 54 [none, some (.ref (a + 1)), none, some (.int ((f_13 w a) - 1))] [] w r w') ∧ (¬ (60 < x3) → (((f_13 w a) < x3 → gk_W none (d + 2) 97 54 [none, some (.ref (a + 1)), none, some (.int ((f_13 w a) - 1))] [] w r w') ∧ (¬ ((f_13 w a) < x3) → ((gk_out ((f_13 w a) - x3) 60 = false) ∧ (∃ (v5 : Int32), ∃ (w6 : gk_Wd), gk_E (d + 1) 98 [.ref (a + 1), .long (f_23 w a ((f_13 w a) - x3)), .int x2] w (.inl (some (.int v5))) w6 ∧ gk_Sh rr w6 ∧ ((¬ v5 = 0 → gk_W none (d + 2) 97 7 [none, some (.ref (a + 1)), some (.int x2), some (.int (x3 + 1))] [] w6 r w') ∧ (v5 = 0 → (r = .inl (some (.int 0)) ∧ w' = w6)))))))))) :
    gk_W none (d + 2) 97 7 [none, some (.ref (a + 1)), some (.int x2), some (.int x3)] [] w r w' := by
  refine gk_W_b 3 (60 < x3) (t := 47) (e := 13) (l1 := [none, some (.ref (a + 1)), some (.int x2), some (.int x3)]) (st1 := []) rfl (fun hp1 => ?_) (fun hp1 => ?_)
  · have h := h.1 hp1
    refine gk_W_s 1 (pc1 := 48) (l1 := [none, some (.ref (a + 1)), some (.int x2), some (.int x3)]) (st1 := [.ref (a + 1)]) rfl ?_
    refine gk_W_c (i := .invokevirtual 28) [.int (f_13 w a)] 51 rfl rfl (c_v (a := a) hS haa.1 rfl rfl (Nat.le_of_ble_eq_true rfl)) (f_13_E hS ⟨haa.1, haa.2⟩) rfl rfl ?_
    refine gk_W_s 3 (pc1 := 54) (l1 := [none, some (.ref (a + 1)), some (.int x2), some (.int ((f_13 w a) - 1))]) (st1 := []) rfl ?_
    exact gk_W_le (gk_le_s (gk_le_s (gk_le_n (gk_le_s (gk_le_0))))) h
  · have h := h.2 hp1
    refine gk_W_s 2 (pc1 := 15) (l1 := [none, some (.ref (a + 1)), some (.int x2), some (.int x3)]) (st1 := [.ref (a + 1), .int x3]) rfl ?_
    refine gk_W_c (i := .invokevirtual 28) [.int (f_13 w a), .int x3] 18 rfl rfl (c_v (a := a) hS haa.1 rfl rfl (Nat.le_of_ble_eq_true rfl)) (f_13_E hS ⟨haa.1, haa.2⟩) rfl rfl ?_
    refine gk_W_b 1 ((f_13 w a) < x3) (t := 47) (e := 21) (l1 := [none, some (.ref (a + 1)), some (.int x2), some (.int x3)]) (st1 := []) rfl (fun hp2 => ?_) (fun hp2 => ?_)
    · have h := h.1 hp2
      refine gk_W_s 1 (pc1 := 48) (l1 := [none, some (.ref (a + 1)), some (.int x2), some (.int x3)]) (st1 := [.ref (a + 1)]) rfl ?_
      refine gk_W_c (i := .invokevirtual 28) [.int (f_13 w a)] 51 rfl rfl (c_v (a := a) hS haa.1 rfl rfl (Nat.le_of_ble_eq_true rfl)) (f_13_E hS ⟨haa.1, haa.2⟩) rfl rfl ?_
      refine gk_W_s 3 (pc1 := 54) (l1 := [none, some (.ref (a + 1)), some (.int x2), some (.int ((f_13 w a) - 1))]) (st1 := []) rfl ?_
      exact gk_W_le (gk_le_s (gk_le_s (gk_le_n (gk_le_s (gk_le_0))))) h
    · have h := h.2 hp2
      refine gk_W_s 3 (pc1 := 24) (l1 := [none, some (.ref (a + 1)), some (.int x2), some (.int x3)]) (st1 := [.ref (a + 1), .ref (a + 1), .ref (a + 1)]) rfl ?_
      refine gk_W_c (i := .invokevirtual 28) [.int (f_13 w a), .ref (a + 1), .ref (a + 1)] 27 rfl rfl (c_v (a := a) hS haa.1 rfl rfl (Nat.le_of_ble_eq_true rfl)) (f_13_E hS ⟨haa.1, haa.2⟩) rfl rfl ?_
      refine gk_W_s 2 (pc1 := 29) (l1 := [none, some (.ref (a + 1)), some (.int x2), some (.int x3)]) (st1 := [.int ((f_13 w a) - x3), .ref (a + 1), .ref (a + 1)]) rfl ?_
      obtain ⟨hb3, h⟩ := h
      refine gk_W_c (i := .invokevirtual 32) [.long (f_23 w a ((f_13 w a) - x3)), .ref (a + 1)] 32 rfl rfl (c_v (a := a) hS haa.1 rfl rfl (Nat.le_of_ble_eq_true rfl)) (f_23_E hS ⟨haa.1, haa.2⟩ ((f_13 w a) - x3) hb3) rfl rfl ?_
      refine gk_W_s 1 (pc1 := 33) (l1 := [none, some (.ref (a + 1)), some (.int x2), some (.int x3)]) (st1 := [.int x2, .long (f_23 w a ((f_13 w a) - x3)), .ref (a + 1)]) rfl ?_
      obtain ⟨v5, w6, hE4, hS7, h⟩ := h
      refine gk_W_c (i := .invokestatic 36) [.int v5] 36 rfl rfl rfl hE4 rfl rfl ?_
      refine gk_W_b 1 (¬ v5 = 0) (t := 41) (e := 39) (l1 := [none, some (.ref (a + 1)), some (.int x2), some (.int x3)]) (st1 := []) rfl (fun hp8 => ?_) (fun hp8 => ?_)
      · have h := h.1 hp8
        refine gk_W_s 2 (pc1 := 7) (l1 := [none, some (.ref (a + 1)), some (.int x2), some (.int (x3 + 1))]) (st1 := []) rfl ?_
        exact h
      · have h := h.2 (Decidable.not_not.mp hp8)
        refine gk_W_s 1 (pc1 := 40) (l1 := [none, some (.ref (a + 1)), some (.int x2), some (.int x3)]) (st1 := [.int 0]) rfl ?_
        obtain ⟨rfl, rfl⟩ := h
        exact gk_W_r (i := .ireturn) rfl rfl rfl
/-- GrammarDesk$Cleaner.removeEmpty(LGrammarDesk$RuleSet;)Z, at 54 -/
theorem sg_97_54 {d : Nat} {rr : List gk_S} {w w' : gk_Wd} {r : gk_Res} (hS : gk_Sh rr w) {a : Nat} (haa : gk_rs a) (x3 : Int32)
    (h : ((x3 < 0 → (r = .inl (some (.int 1)) ∧ w' = w)) ∧ (¬ (x3 < 0) → ((gk_out x3 60 = false) ∧ (((f_39 (f_23 w a x3)) = 0 → gk_W none (d + 2) 97 54 [none, some (.ref (a + 1)), none, some (.int (x3 + (-1)))] [] w r w') ∧ (¬ ((f_39 (f_23 w a x3)) = 0) → (∃ (w5 : gk_Wd), gk_E (d + 1) 14 [.ref (a + 1), .int x3] w (.inl none) w5 ∧ gk_Sh rr w5 ∧ gk_W none (d + 2) 97 54 [none, some (.ref (a + 1)), none, some (.int (x3 + (-1)))] [] w5 r w'))))))) :
    gk_W none (d + 2) 97 54 [none, some (.ref (a + 1)), none, some (.int x3)] [] w r w' := by
  refine gk_W_b 2 (x3 < 0) (t := 80) (e := 58) (l1 := [none, some (.ref (a + 1)), none, some (.int x3)]) (st1 := []) rfl (fun hp1 => ?_) (fun hp1 => ?_)
  · have h := h.1 hp1
    refine gk_W_s 1 (pc1 := 81) (l1 := [none, some (.ref (a + 1)), none, some (.int x3)]) (st1 := [.int 1]) rfl ?_
    obtain ⟨rfl, rfl⟩ := h
    exact gk_W_r (i := .ireturn) rfl rfl rfl
  · have h := h.2 hp1
    refine gk_W_s 2 (pc1 := 60) (l1 := [none, some (.ref (a + 1)), none, some (.int x3)]) (st1 := [.int x3, .ref (a + 1)]) rfl ?_
    obtain ⟨hb2, h⟩ := h
    refine gk_W_c (i := .invokevirtual 32) [.long (f_23 w a x3)] 63 rfl rfl (c_v (a := a) hS haa.1 rfl rfl (Nat.le_of_ble_eq_true rfl)) (f_23_E hS ⟨haa.1, haa.2⟩ x3 hb2) rfl rfl ?_
    refine gk_W_c (i := .invokestatic 40) [.int (f_39 (f_23 w a x3))] 66 rfl rfl rfl (f_39_E (f_23 w a x3)) rfl rfl ?_
    refine gk_W_b 1 ((f_39 (f_23 w a x3)) = 0) (t := 74) (e := 69) (l1 := [none, some (.ref (a + 1)), none, some (.int x3)]) (st1 := []) rfl (fun hp3 => ?_) (fun hp3 => ?_)
    · have h := h.1 hp3
      refine gk_W_s 2 (pc1 := 54) (l1 := [none, some (.ref (a + 1)), none, some (.int (x3 + (-1)))]) (st1 := []) rfl ?_
      exact h
    · have h := h.2 hp3
      refine gk_W_s 2 (pc1 := 71) (l1 := [none, some (.ref (a + 1)), none, some (.int x3)]) (st1 := [.int x3, .ref (a + 1)]) rfl ?_
      obtain ⟨w5, hE4, hS6, h⟩ := h
      refine gk_W_c (i := .invokevirtual 44) [] 74 rfl rfl (c_v (a := a) hS haa.1 rfl rfl (Nat.le_of_ble_eq_true rfl)) hE4 rfl rfl ?_
      refine gk_W_s 2 (pc1 := 54) (l1 := [none, some (.ref (a + 1)), none, some (.int (x3 + (-1)))]) (st1 := []) rfl ?_
      exact h
/-- GrammarDesk$Cleaner.addShorter(LGrammarDesk$RuleSet;JI)Z, at 0 -/
theorem sg_98_0 {d : Nat} {rr : List gk_S} {w w' : gk_Wd} {r : gk_Res} (hS : gk_Sh rr w) {a : Nat} (haa : gk_rs a) (y1 : Int64) (x3 : Int32)
    (h : gk_W none (d + 1) 98 3 [some (.ref (a + 1)), some (.long y1), none, some (.int x3), some (.int 1), none] [] w r w') :
    gk_W none (d + 1) 98 0 [some (.ref (a + 1)), some (.long y1), none, some (.int x3), none, none] [] w r w' := by
  refine gk_W_s 2 (pc1 := 3) (l1 := [some (.ref (a + 1)), some (.long y1), none, some (.int x3), some (.int 1), none]) (st1 := []) rfl ?_
  exact h
/-- GrammarDesk$Cleaner.addShorter(LGrammarDesk$RuleSet;JI)Z, at 3 -/
theorem sg_98_3 {d : Nat} {rr : List gk_S} {w w' : gk_Wd} {r : gk_Res} (hS : gk_Sh rr w) {a : Nat} (haa : gk_rs a) (y1 : Int64) (x3 : Int32) (x4 : Int32)
    (h : (((f_24 y1) < x4 → (r = .inl (some (.int 1)) ∧ w' = w)) ∧ (¬ ((f_24 y1) < x4) → (((f_28 (f_26 y1 x4)) = 0 → gk_W none (d + 1) 98 3 [some (.ref (a + 1)), some (.long y1), none, some (.int x3), some (.int (x4 + 1)), none] [] w r w') ∧ (¬ ((f_28 (f_26 y1 x4)) = 0) → (((f_36 x3 (f_26 y1 x4)) = 0 → gk_W none (d + 1) 98 3 [some (.ref (a + 1)), some (.long y1), none, some (.int x3), some (.int (x4 + 1)), none] [] w r w') ∧ (¬ ((f_36 x3 (f_26 y1 x4)) = 0) → (∃ (v5 : Int64), gk_E d 99 [.long y1, .int x4] w (.inl (some (.long v5))) w ∧ (∃ (v7 : Int32), ∃ (w8 : gk_Wd), gk_E d 94 [.ref (a + 1), .long v5] w (.inl (some (.int v7))) w8 ∧ gk_Sh rr w8 ∧ ((¬ v7 = 0 → gk_W none (d + 1) 98 3 [some (.ref (a + 1)), some (.long y1), none, some (.int x3), some (.int (x4 + 1)), none] [] w8 r w') ∧ (v7 = 0 → (r = .inl (some (.int 0)) ∧ w' = w8)))))))))))) :
    gk_W none (d + 1) 98 3 [some (.ref (a + 1)), some (.long y1), none, some (.int x3), some (.int x4), none] [] w r w' := by
  refine gk_W_s 2 (pc1 := 6) (l1 := [some (.ref (a + 1)), some (.long y1), none, some (.int x3), some (.int x4), none]) (st1 := [.long y1, .int x4]) rfl ?_
  refine gk_W_c (i := .invokestatic 48) [.int (f_24 y1), .int x4] 9 rfl rfl rfl (f_24_E y1) rfl rfl ?_
  refine gk_W_b 1 ((f_24 y1) < x4) (t := 58) (e := 12) (l1 := [some (.ref (a + 1)), some (.long y1), none, some (.int x3), some (.int x4), none]) (st1 := []) rfl (fun hp1 => ?_) (fun hp1 => ?_)
  · have h := h.1 hp1
    refine gk_W_s 1 (pc1 := 59) (l1 := [some (.ref (a + 1)), some (.long y1), none, some (.int x3), some (.int x4), none]) (st1 := [.int 1]) rfl ?_
    obtain ⟨rfl, rfl⟩ := h
    exact gk_W_r (i := .ireturn) rfl rfl rfl
  · have h := h.2 hp1
    refine gk_W_s 2 (pc1 := 15) (l1 := [some (.ref (a + 1)), some (.long y1), none, some (.int x3), some (.int x4), none]) (st1 := [.int x4, .long y1]) rfl ?_
    refine gk_W_c (i := .invokestatic 52) [.int (f_26 y1 x4)] 18 rfl rfl rfl (f_26_E y1 x4) rfl rfl ?_
    refine gk_W_s 2 (pc1 := 22) (l1 := [some (.ref (a + 1)), some (.long y1), none, some (.int x3), some (.int x4), some (.int (f_26 y1 x4))]) (st1 := [.int (f_26 y1 x4)]) rfl ?_
    refine gk_W_c (i := .invokestatic 56) [.int (f_28 (f_26 y1 x4))] 25 rfl rfl rfl (f_28_E (f_26 y1 x4)) rfl rfl ?_
    refine gk_W_b 1 ((f_28 (f_26 y1 x4)) = 0) (t := 52) (e := 28) (l1 := [some (.ref (a + 1)), some (.long y1), none, some (.int x3), some (.int x4), some (.int (f_26 y1 x4))]) (st1 := []) rfl (fun hp2 => ?_) (fun hp2 => ?_)
    · have h := h.1 hp2
      refine gk_W_s 2 (pc1 := 3) (l1 := [some (.ref (a + 1)), some (.long y1), none, some (.int x3), some (.int (x4 + 1)), some (.int (f_26 y1 x4))]) (st1 := []) rfl ?_
      exact gk_W_le (gk_le_s (gk_le_s (gk_le_s (gk_le_s (gk_le_s (gk_le_n (gk_le_0))))))) h
    · have h := h.2 hp2
      refine gk_W_s 2 (pc1 := 31) (l1 := [some (.ref (a + 1)), some (.long y1), none, some (.int x3), some (.int x4), some (.int (f_26 y1 x4))]) (st1 := [.int (f_26 y1 x4), .int x3]) rfl ?_
      refine gk_W_c (i := .invokestatic 60) [.int (f_36 x3 (f_26 y1 x4))] 34 rfl rfl rfl (f_36_E x3 (f_26 y1 x4)) rfl rfl ?_
      refine gk_W_b 1 ((f_36 x3 (f_26 y1 x4)) = 0) (t := 52) (e := 37) (l1 := [some (.ref (a + 1)), some (.long y1), none, some (.int x3), some (.int x4), some (.int (f_26 y1 x4))]) (st1 := []) rfl (fun hp3 => ?_) (fun hp3 => ?_)
      · have h := h.1 hp3
        refine gk_W_s 2 (pc1 := 3) (l1 := [some (.ref (a + 1)), some (.long y1), none, some (.int x3), some (.int (x4 + 1)), some (.int (f_26 y1 x4))]) (st1 := []) rfl ?_
        exact gk_W_le (gk_le_s (gk_le_s (gk_le_s (gk_le_s (gk_le_s (gk_le_n (gk_le_0))))))) h
      · have h := h.2 hp3
        refine gk_W_s 3 (pc1 := 41) (l1 := [some (.ref (a + 1)), some (.long y1), none, some (.int x3), some (.int x4), some (.int (f_26 y1 x4))]) (st1 := [.int x4, .long y1, .ref (a + 1)]) rfl ?_
        obtain ⟨v5, hE4, h⟩ := h
        refine gk_W_c (i := .invokestatic 64) [.long v5, .ref (a + 1)] 44 rfl rfl rfl hE4 rfl rfl ?_
        obtain ⟨v7, w8, hE6, hS9, h⟩ := h
        refine gk_W_c (i := .invokevirtual 68) [.int v7] 47 rfl rfl (c_v (a := a) hS haa.1 rfl rfl (Nat.le_of_ble_eq_true rfl)) hE6 rfl rfl ?_
        refine gk_W_b 1 (¬ v7 = 0) (t := 52) (e := 50) (l1 := [some (.ref (a + 1)), some (.long y1), none, some (.int x3), some (.int x4), some (.int (f_26 y1 x4))]) (st1 := []) rfl (fun hp10 => ?_) (fun hp10 => ?_)
        · have h := h.1 hp10
          refine gk_W_s 2 (pc1 := 3) (l1 := [some (.ref (a + 1)), some (.long y1), none, some (.int x3), some (.int (x4 + 1)), some (.int (f_26 y1 x4))]) (st1 := []) rfl ?_
          exact gk_W_le (gk_le_s (gk_le_s (gk_le_s (gk_le_s (gk_le_s (gk_le_n (gk_le_0))))))) h
        · have h := h.2 (Decidable.not_not.mp hp10)
          refine gk_W_s 1 (pc1 := 51) (l1 := [some (.ref (a + 1)), some (.long y1), none, some (.int x3), some (.int x4), some (.int (f_26 y1 x4))]) (st1 := [.int 0]) rfl ?_
          obtain ⟨rfl, rfl⟩ := h
          exact gk_W_r (i := .ireturn) rfl rfl rfl
/-- GrammarDesk$Packed.without(JI)J, at 0 -/
theorem sg_99_0 {d : Nat} {rr : List gk_S} {w w' : gk_Wd} {r : gk_Res} (hS : gk_Sh rr w) (y0 : Int64) (x2 : Int32)
    (h : gk_W none (d + 2) 99 11 [some (.long y0), none, some (.int x2), some (.long (f_90 (f_25 y0))), none, some (.int 1)] [] w r w') :
    gk_W none (d + 2) 99 0 [some (.long y0), none, some (.int x2), none, none, none] [] w r w' := by
  refine gk_W_s 1 (pc1 := 1) (l1 := [some (.long y0), none, some (.int x2), none, none, none]) (st1 := [.long y0]) rfl ?_
  refine gk_W_c (i := .invokestatic 29) [.int (f_25 y0)] 4 rfl rfl rfl (f_25_E y0) rfl rfl ?_
  refine gk_W_c (i := .invokestatic 32) [.long (f_90 (f_25 y0))] 7 rfl rfl rfl (f_90_E (f_25 y0)) rfl rfl ?_
  refine gk_W_s 3 (pc1 := 11) (l1 := [some (.long y0), none, some (.int x2), some (.long (f_90 (f_25 y0))), none, some (.int 1)]) (st1 := []) rfl ?_
  exact h
/-- GrammarDesk$Packed.without(JI)J, at 11 -/
theorem sg_99_11 {d : Nat} {rr : List gk_S} {w w' : gk_Wd} {r : gk_Res} (hS : gk_Sh rr w) (y0 : Int64) (x2 : Int32) (y3 : Int64) (x5 : Int32)
    (h : (((f_24 y0) < x5 → (r = .inl (some (.long y3)) ∧ w' = w)) ∧ (¬ ((f_24 y0) < x5) → ((¬ x5 = x2 → gk_W none (d + 2) 99 11 [some (.long y0), none, some (.int x2), some (.long (f_91 y3 (f_26 y0 x5))), none, some (.int (x5 + 1))] [] w r w') ∧ (x5 = x2 → gk_W none (d + 2) 99 11 [some (.long y0), none, some (.int x2), some (.long y3), none, some (.int (x5 + 1))] [] w r w'))))) :
    gk_W none (d + 2) 99 11 [some (.long y0), none, some (.int x2), some (.long y3), none, some (.int x5)] [] w r w' := by
  refine gk_W_s 2 (pc1 := 14) (l1 := [some (.long y0), none, some (.int x2), some (.long y3), none, some (.int x5)]) (st1 := [.long y0, .int x5]) rfl ?_
  refine gk_W_c (i := .invokestatic 15) [.int (f_24 y0), .int x5] 17 rfl rfl rfl (f_24_E y0) rfl rfl ?_
  refine gk_W_b 1 ((f_24 y0) < x5) (t := 47) (e := 20) (l1 := [some (.long y0), none, some (.int x2), some (.long y3), none, some (.int x5)]) (st1 := []) rfl (fun hp1 => ?_) (fun hp1 => ?_)
  · have h := h.1 hp1
    refine gk_W_s 1 (pc1 := 48) (l1 := [some (.long y0), none, some (.int x2), some (.long y3), none, some (.int x5)]) (st1 := [.long y3]) rfl ?_
    obtain ⟨rfl, rfl⟩ := h
    exact gk_W_r (i := .lreturn) rfl rfl rfl
  · have h := h.2 hp1
    refine gk_W_b 3 (¬ x5 = x2) (t := 30) (e := 26) (l1 := [some (.long y0), none, some (.int x2), some (.long y3), none, some (.int x5)]) (st1 := []) rfl (fun hp2 => ?_) (fun hp2 => ?_)
    · have h := h.1 hp2
      refine gk_W_s 3 (pc1 := 34) (l1 := [some (.long y0), none, some (.int x2), some (.long y3), none, some (.int x5)]) (st1 := [.int x5, .long y0, .long y3]) rfl ?_
      refine gk_W_c (i := .invokestatic 21) [.int (f_26 y0 x5), .long y3] 37 rfl rfl rfl (f_26_E y0 x5) rfl rfl ?_
      refine gk_W_c (i := .invokestatic 25) [.long (f_91 y3 (f_26 y0 x5))] 40 rfl rfl rfl (f_91_E y3 (f_26 y0 x5)) rfl rfl ?_
      refine gk_W_s 3 (pc1 := 11) (l1 := [some (.long y0), none, some (.int x2), some (.long (f_91 y3 (f_26 y0 x5))), none, some (.int (x5 + 1))]) (st1 := []) rfl ?_
      exact h
    · have h := h.2 (Decidable.not_not.mp hp2)
      refine gk_W_s 5 (pc1 := 11) (l1 := [some (.long y0), none, some (.int x2), some (.long y3), none, some (.int (x5 + 1))]) (st1 := []) rfl ?_
      exact h
/-- GrammarDesk$Cleaner.removeUnits(LGrammarDesk$RuleSet;)Z, at 0 -/
theorem sg_102_0 {d : Nat} {rr : List gk_S} {w w' : gk_Wd} {r : gk_Res} (hS : gk_Sh rr w) {a : Nat} (haa : gk_rs a)
    (h : (∃ (w2 : gk_Wd), gk_E (d + 1) 20 [.ref 9, .ref (a + 1)] w (.inl none) w2 ∧ gk_Sh rr w2 ∧ (∃ (w5 : gk_Wd), gk_E (d + 1) 103 [.ref 8] w2 (.inl none) w5 ∧ gk_Sh rr w5 ∧ gk_W none (d + 2) 102 14 [some (.ref 8), some (.ref (a + 1)), some (.int 0)] [] w5 r w'))) :
    gk_W none (d + 2) 102 0 [some (.ref 8), some (.ref (a + 1)), none] [] w r w' := by
  refine gk_W_s 1 (pc1 := 1) (l1 := [some (.ref 8), some (.ref (a + 1)), none]) (st1 := [.ref 8]) rfl ?_
  refine gk_W_h (i := .getfield 10) 4 rfl rfl (h_gr (a := 7) (k := 0) (m := 9) hS ly_7 rfl) rfl ?_
  refine gk_W_s 1 (pc1 := 5) (l1 := [some (.ref 8), some (.ref (a + 1)), none]) (st1 := [.ref (a + 1), .ref 9]) rfl ?_
  obtain ⟨w2, hE1, hS3, h⟩ := h
  refine gk_W_c (i := .invokevirtual 71) [] 8 rfl rfl (c_v (a := 8) hS ly_8 rfl rfl (Nat.le_of_ble_eq_true rfl)) hE1 rfl rfl ?_
  refine gk_W_s 1 (pc1 := 9) (l1 := [some (.ref 8), some (.ref (a + 1)), none]) (st1 := [.ref 8]) rfl ?_
  obtain ⟨w5, hE4, hS6, h⟩ := h
  refine gk_W_c (i := .invokevirtual 75) [] 12 rfl rfl (c_v (a := 7) hS3 ly_7 rfl rfl (Nat.le_of_ble_eq_true rfl)) hE4 rfl rfl ?_
  refine gk_W_s 2 (pc1 := 14) (l1 := [some (.ref 8), some (.ref (a + 1)), some (.int 0)]) (st1 := []) rfl ?_
  exact h
/-- GrammarDesk$Cleaner.removeUnits(LGrammarDesk$RuleSet;)Z, at 14 -/
theorem sg_102_14 {d : Nat} {rr : List gk_S} {w w' : gk_Wd} {r : gk_Res} (hS : gk_Sh rr w) {a : Nat} (haa : gk_rs a) (x2 : Int32)
    (h : (((f_13 w 8) ≤ x2 → gk_W none (d + 2) 102 70 [none, some (.ref (a + 1)), some (.int ((f_13 w a) - 1))] [] w r w') ∧ (¬ ((f_13 w 8) ≤ x2) → ((gk_out x2 60 = false) ∧ ((¬ (f_40 (f_23 w 8 x2)) = 0 → gk_W none (d + 2) 102 14 [some (.ref 8), some (.ref (a + 1)), some (.int (x2 + 1))] [] w r w') ∧ ((f_40 (f_23 w 8 x2)) = 0 → ((gk_out x2 60 = false) ∧ (∃ (v6 : Int32), ∃ (w7 : gk_Wd), gk_E (d + 1) 104 [.ref 8, .ref (a + 1), .long (f_23 w 8 x2)] w (.inl (some (.int v6))) w7 ∧ gk_Sh rr w7 ∧ ((¬ v6 = 0 → gk_W none (d + 2) 102 14 [some (.ref 8), some (.ref (a + 1)), some (.int (x2 + 1))] [] w7 r w') ∧ (v6 = 0 → (r = .inl (some (.int 0)) ∧ w' = w7))))))))))) :
    gk_W none (d + 2) 102 14 [some (.ref 8), some (.ref (a + 1)), some (.int x2)] [] w r w' := by
  refine gk_W_s 2 (pc1 := 16) (l1 := [some (.ref 8), some (.ref (a + 1)), some (.int x2)]) (st1 := [.ref 8, .int x2]) rfl ?_
  refine gk_W_h (i := .getfield 10) 19 rfl rfl (h_gr (a := 7) (k := 0) (m := 9) hS ly_7 rfl) rfl ?_
  refine gk_W_c (i := .invokevirtual 28) [.int (f_13 w 8), .int x2] 22 rfl rfl (c_v (a := 8) hS ly_8 rfl rfl (Nat.le_of_ble_eq_true rfl)) (f_13_E hS rs_8) rfl rfl ?_
  refine gk_W_b 1 ((f_13 w 8) ≤ x2) (t := 63) (e := 25) (l1 := [some (.ref 8), some (.ref (a + 1)), some (.int x2)]) (st1 := []) rfl (fun hp1 => ?_) (fun hp1 => ?_)
  · have h := h.1 hp1
    refine gk_W_s 1 (pc1 := 64) (l1 := [some (.ref 8), some (.ref (a + 1)), some (.int x2)]) (st1 := [.ref (a + 1)]) rfl ?_
    refine gk_W_c (i := .invokevirtual 28) [.int (f_13 w a)] 67 rfl rfl (c_v (a := a) hS haa.1 rfl rfl (Nat.le_of_ble_eq_true rfl)) (f_13_E hS ⟨haa.1, haa.2⟩) rfl rfl ?_
    refine gk_W_s 3 (pc1 := 70) (l1 := [some (.ref 8), some (.ref (a + 1)), some (.int ((f_13 w a) - 1))]) (st1 := []) rfl ?_
    exact gk_W_le (gk_le_n (gk_le_s (gk_le_s (gk_le_0)))) h
  · have h := h.2 hp1
    refine gk_W_s 1 (pc1 := 26) (l1 := [some (.ref 8), some (.ref (a + 1)), some (.int x2)]) (st1 := [.ref 8]) rfl ?_
    refine gk_W_h (i := .getfield 10) 29 rfl rfl (h_gr (a := 7) (k := 0) (m := 9) hS ly_7 rfl) rfl ?_
    refine gk_W_s 1 (pc1 := 30) (l1 := [some (.ref 8), some (.ref (a + 1)), some (.int x2)]) (st1 := [.int x2, .ref 9]) rfl ?_
    obtain ⟨hb2, h⟩ := h
    refine gk_W_c (i := .invokevirtual 32) [.long (f_23 w 8 x2)] 33 rfl rfl (c_v (a := 8) hS ly_8 rfl rfl (Nat.le_of_ble_eq_true rfl)) (f_23_E hS rs_8 x2 hb2) rfl rfl ?_
    refine gk_W_c (i := .invokestatic 78) [.int (f_40 (f_23 w 8 x2))] 36 rfl rfl rfl (f_40_E (f_23 w 8 x2)) rfl rfl ?_
    refine gk_W_b 1 (¬ (f_40 (f_23 w 8 x2)) = 0) (t := 57) (e := 39) (l1 := [some (.ref 8), some (.ref (a + 1)), some (.int x2)]) (st1 := []) rfl (fun hp3 => ?_) (fun hp3 => ?_)
    · have h := h.1 hp3
      refine gk_W_s 2 (pc1 := 14) (l1 := [some (.ref 8), some (.ref (a + 1)), some (.int (x2 + 1))]) (st1 := []) rfl ?_
      exact h
    · have h := h.2 (Decidable.not_not.mp hp3)
      refine gk_W_s 3 (pc1 := 42) (l1 := [some (.ref 8), some (.ref (a + 1)), some (.int x2)]) (st1 := [.ref 8, .ref (a + 1), .ref 8]) rfl ?_
      refine gk_W_h (i := .getfield 10) 45 rfl rfl (h_gr (a := 7) (k := 0) (m := 9) hS ly_7 rfl) rfl ?_
      refine gk_W_s 1 (pc1 := 46) (l1 := [some (.ref 8), some (.ref (a + 1)), some (.int x2)]) (st1 := [.int x2, .ref 9, .ref (a + 1), .ref 8]) rfl ?_
      obtain ⟨hb4, h⟩ := h
      refine gk_W_c (i := .invokevirtual 32) [.long (f_23 w 8 x2), .ref (a + 1), .ref 8] 49 rfl rfl (c_v (a := 8) hS ly_8 rfl rfl (Nat.le_of_ble_eq_true rfl)) (f_23_E hS rs_8 x2 hb4) rfl rfl ?_
      obtain ⟨v6, w7, hE5, hS8, h⟩ := h
      refine gk_W_c (i := .invokevirtual 81) [.int v6] 52 rfl rfl (c_v (a := 7) hS ly_7 rfl rfl (Nat.le_of_ble_eq_true rfl)) hE5 rfl rfl ?_
      refine gk_W_b 1 (¬ v6 = 0) (t := 57) (e := 55) (l1 := [some (.ref 8), some (.ref (a + 1)), some (.int x2)]) (st1 := []) rfl (fun hp9 => ?_) (fun hp9 => ?_)
      · have h := h.1 hp9
        refine gk_W_s 2 (pc1 := 14) (l1 := [some (.ref 8), some (.ref (a + 1)), some (.int (x2 + 1))]) (st1 := []) rfl ?_
        exact h
      · have h := h.2 (Decidable.not_not.mp hp9)
        refine gk_W_s 1 (pc1 := 56) (l1 := [some (.ref 8), some (.ref (a + 1)), some (.int x2)]) (st1 := [.int 0]) rfl ?_
        obtain ⟨rfl, rfl⟩ := h
        exact gk_W_r (i := .ireturn) rfl rfl rfl
/-- GrammarDesk$Cleaner.removeUnits(LGrammarDesk$RuleSet;)Z, at 70 -/
theorem sg_102_70 {d : Nat} {rr : List gk_S} {w w' : gk_Wd} {r : gk_Res} (hS : gk_Sh rr w) {a : Nat} (haa : gk_rs a) (x2 : Int32)
    (h : ((x2 < 0 → (r = .inl (some (.int 1)) ∧ w' = w)) ∧ (¬ (x2 < 0) → ((gk_out x2 60 = false) ∧ (((f_40 (f_23 w a x2)) = 0 → gk_W none (d + 2) 102 70 [none, some (.ref (a + 1)), some (.int (x2 + (-1)))] [] w r w') ∧ (¬ ((f_40 (f_23 w a x2)) = 0) → (∃ (w5 : gk_Wd), gk_E (d + 1) 14 [.ref (a + 1), .int x2] w (.inl none) w5 ∧ gk_Sh rr w5 ∧ gk_W none (d + 2) 102 70 [none, some (.ref (a + 1)), some (.int (x2 + (-1)))] [] w5 r w'))))))) :
    gk_W none (d + 2) 102 70 [none, some (.ref (a + 1)), some (.int x2)] [] w r w' := by
  refine gk_W_b 2 (x2 < 0) (t := 96) (e := 74) (l1 := [none, some (.ref (a + 1)), some (.int x2)]) (st1 := []) rfl (fun hp1 => ?_) (fun hp1 => ?_)
  · have h := h.1 hp1
    refine gk_W_s 1 (pc1 := 97) (l1 := [none, some (.ref (a + 1)), some (.int x2)]) (st1 := [.int 1]) rfl ?_
    obtain ⟨rfl, rfl⟩ := h
    exact gk_W_r (i := .ireturn) rfl rfl rfl
  · have h := h.2 hp1
    refine gk_W_s 2 (pc1 := 76) (l1 := [none, some (.ref (a + 1)), some (.int x2)]) (st1 := [.int x2, .ref (a + 1)]) rfl ?_
    obtain ⟨hb2, h⟩ := h
    refine gk_W_c (i := .invokevirtual 32) [.long (f_23 w a x2)] 79 rfl rfl (c_v (a := a) hS haa.1 rfl rfl (Nat.le_of_ble_eq_true rfl)) (f_23_E hS ⟨haa.1, haa.2⟩ x2 hb2) rfl rfl ?_
    refine gk_W_c (i := .invokestatic 78) [.int (f_40 (f_23 w a x2))] 82 rfl rfl rfl (f_40_E (f_23 w a x2)) rfl rfl ?_
    refine gk_W_b 1 ((f_40 (f_23 w a x2)) = 0) (t := 90) (e := 85) (l1 := [none, some (.ref (a + 1)), some (.int x2)]) (st1 := []) rfl (fun hp3 => ?_) (fun hp3 => ?_)
    · have h := h.1 hp3
      refine gk_W_s 2 (pc1 := 70) (l1 := [none, some (.ref (a + 1)), some (.int (x2 + (-1)))]) (st1 := []) rfl ?_
      exact h
    · have h := h.2 hp3
      refine gk_W_s 2 (pc1 := 87) (l1 := [none, some (.ref (a + 1)), some (.int x2)]) (st1 := [.int x2, .ref (a + 1)]) rfl ?_
      obtain ⟨w5, hE4, hS6, h⟩ := h
      refine gk_W_c (i := .invokevirtual 44) [] 90 rfl rfl (c_v (a := a) hS haa.1 rfl rfl (Nat.le_of_ble_eq_true rfl)) hE4 rfl rfl ?_
      refine gk_W_s 2 (pc1 := 70) (l1 := [none, some (.ref (a + 1)), some (.int (x2 + (-1)))]) (st1 := []) rfl ?_
      exact h
/-- GrammarDesk$Cleaner.findRenamings()V, at 0 -/
theorem sg_103_0 {d : Nat} {rr : List gk_S} {w w' : gk_Wd} {r : gk_Res} (hS : gk_Sh rr w)
    (h : gk_W none (d + 2) 103 2 [some (.ref 8), some (.int 0)] [] w r w') :
    gk_W none (d + 2) 103 0 [some (.ref 8), none] [] w r w' := by
  refine gk_W_s 2 (pc1 := 2) (l1 := [some (.ref 8), some (.int 0)]) (st1 := []) rfl ?_
  exact h
/-- GrammarDesk$Cleaner.findRenamings()V, at 2 -/
theorem sg_103_2 {d : Nat} {rr : List gk_S} {w w' : gk_Wd} {r : gk_Res} (hS : gk_Sh rr w) (x1 : Int32)
    (h : ((16 ≤ x1 → gk_W none (d + 2) 103 26 [some (.ref 8), some (.int 0)] [] w r w') ∧ (¬ (16 ≤ x1) → (gk_out x1 16 = false ∧ gk_W none (d + 2) 103 2 [some (.ref 8), some (.int (x1 + 1))] [] (w_sa w 10 ((w_a w 10).set x1.toNatClampNeg 0)) r w')))) :
    gk_W none (d + 2) 103 2 [some (.ref 8), some (.int x1)] [] w r w' := by
  refine gk_W_s 2 (pc1 := 4) (l1 := [some (.ref 8), some (.int x1)]) (st1 := [.ref 8, .int x1]) rfl ?_
  refine gk_W_h (i := .getfield 18) 7 rfl rfl (h_gr (a := 7) (k := 1) (m := 11) hS ly_7 rfl) rfl ?_
  refine gk_W_h (i := .arraylength) 8 rfl rfl (h_len (a := 10) (scr := none) hS ly_10 (Nat.lt_of_sub_eq_succ rfl)) rfl ?_
  refine gk_W_b 1 (16 ≤ x1) (t := 24) (e := 11) (l1 := [some (.ref 8), some (.int x1)]) (st1 := []) rfl (fun hp1 => ?_) (fun hp1 => ?_)
  · have h := h.1 hp1
    refine gk_W_s 2 (pc1 := 26) (l1 := [some (.ref 8), some (.int 0)]) (st1 := []) rfl ?_
    exact h
  · have h := h.2 hp1
    refine gk_W_s 1 (pc1 := 12) (l1 := [some (.ref 8), some (.int x1)]) (st1 := [.ref 8]) rfl ?_
    refine gk_W_h (i := .getfield 18) 15 rfl rfl (h_gr (a := 7) (k := 1) (m := 11) hS ly_7 rfl) rfl ?_
    refine gk_W_s 2 (pc1 := 17) (l1 := [some (.ref 8), some (.int x1)]) (st1 := [.int 0, .int x1, .ref 11]) rfl ?_
    obtain ⟨hb2, h⟩ := h
    refine gk_W_h (i := .iastore) 18 rfl rfl (h_as (a := 10) (t := 0) hS ly_10 hb2 rfl) rfl ?_
    refine gk_W_s 2 (pc1 := 2) (l1 := [some (.ref 8), some (.int (x1 + 1))]) (st1 := []) rfl ?_
    exact h
/-- GrammarDesk$Cleaner.findRenamings()V, at 26 -/
theorem sg_103_26 {d : Nat} {rr : List gk_S} {w w' : gk_Wd} {r : gk_Res} (hS : gk_Sh rr w) (x1 : Int32)
    (h : (((f_13 w 8) ≤ x1 → (∃ (w3 : gk_Wd), gk_E (d + 1) 46 [.ref 11] w (.inl none) w3 ∧ gk_Sh rr w3 ∧ (r = .inl none ∧ w' = w3))) ∧ (¬ ((f_13 w 8) ≤ x1) → ((gk_out x1 60 = false) ∧ (((f_40 (f_23 w 8 x1)) = 0 → gk_W none (d + 2) 103 26 [some (.ref 8), some (.int (x1 + 1))] [] w r w') ∧ (¬ ((f_40 (f_23 w 8 x1)) = 0) → ((gk_out x1 60 = false) ∧ (gk_out (f_25 (f_23 w 8 x1)) 16 = false ∧ ((gk_out x1 60 = false) ∧ (∃ (v11 : Int32), gk_E (d + 1) 33 [.long (f_23 w 8 x1)] w (.inl (some (.int v11))) w ∧ (gk_out (f_25 (f_23 w 8 x1)) 16 = false ∧ gk_W none (d + 2) 103 26 [some (.ref 8), some (.int (x1 + 1))] [] (w_sa w 10 ((w_a w 10).set (f_25 (f_23 w 8 x1)).toNatClampNeg (((w_a w 10).getD (f_25 (f_23 w 8 x1)).toNatClampNeg 0) ||| v11))) r w'))))))))))) :
    gk_W none (d + 2) 103 26 [some (.ref 8), some (.int x1)] [] w r w' := by
  refine gk_W_s 2 (pc1 := 28) (l1 := [some (.ref 8), some (.int x1)]) (st1 := [.ref 8, .int x1]) rfl ?_
  refine gk_W_h (i := .getfield 10) 31 rfl rfl (h_gr (a := 7) (k := 0) (m := 9) hS ly_7 rfl) rfl ?_
  refine gk_W_c (i := .invokevirtual 28) [.int (f_13 w 8), .int x1] 34 rfl rfl (c_v (a := 8) hS ly_8 rfl rfl (Nat.le_of_ble_eq_true rfl)) (f_13_E hS rs_8) rfl rfl ?_
  refine gk_W_b 1 ((f_13 w 8) ≤ x1) (t := 87) (e := 37) (l1 := [some (.ref 8), some (.int x1)]) (st1 := []) rfl (fun hp1 => ?_) (fun hp1 => ?_)
  · have h := h.1 hp1
    refine gk_W_s 1 (pc1 := 88) (l1 := [some (.ref 8), some (.int x1)]) (st1 := [.ref 8]) rfl ?_
    refine gk_W_h (i := .getfield 18) 91 rfl rfl (h_gr (a := 7) (k := 1) (m := 11) hS ly_7 rfl) rfl ?_
    obtain ⟨w3, hE2, hS4, h⟩ := h
    refine gk_W_c (i := .invokestatic 91) [] 94 rfl rfl rfl hE2 rfl rfl ?_
    obtain ⟨rfl, rfl⟩ := h
    exact gk_W_r (i := .return_) rfl rfl rfl
  · have h := h.2 hp1
    refine gk_W_s 1 (pc1 := 38) (l1 := [some (.ref 8), some (.int x1)]) (st1 := [.ref 8]) rfl ?_
    refine gk_W_h (i := .getfield 10) 41 rfl rfl (h_gr (a := 7) (k := 0) (m := 9) hS ly_7 rfl) rfl ?_
    refine gk_W_s 1 (pc1 := 42) (l1 := [some (.ref 8), some (.int x1)]) (st1 := [.int x1, .ref 9]) rfl ?_
    obtain ⟨hb5, h⟩ := h
    refine gk_W_c (i := .invokevirtual 32) [.long (f_23 w 8 x1)] 45 rfl rfl (c_v (a := 8) hS ly_8 rfl rfl (Nat.le_of_ble_eq_true rfl)) (f_23_E hS rs_8 x1 hb5) rfl rfl ?_
    refine gk_W_c (i := .invokestatic 78) [.int (f_40 (f_23 w 8 x1))] 48 rfl rfl rfl (f_40_E (f_23 w 8 x1)) rfl rfl ?_
    refine gk_W_b 1 ((f_40 (f_23 w 8 x1)) = 0) (t := 81) (e := 51) (l1 := [some (.ref 8), some (.int x1)]) (st1 := []) rfl (fun hp6 => ?_) (fun hp6 => ?_)
    · have h := h.1 hp6
      refine gk_W_s 2 (pc1 := 26) (l1 := [some (.ref 8), some (.int (x1 + 1))]) (st1 := []) rfl ?_
      exact h
    · have h := h.2 hp6
      refine gk_W_s 1 (pc1 := 52) (l1 := [some (.ref 8), some (.int x1)]) (st1 := [.ref 8]) rfl ?_
      refine gk_W_h (i := .getfield 18) 55 rfl rfl (h_gr (a := 7) (k := 1) (m := 11) hS ly_7 rfl) rfl ?_
      refine gk_W_s 1 (pc1 := 56) (l1 := [some (.ref 8), some (.int x1)]) (st1 := [.ref 8, .ref 11]) rfl ?_
      refine gk_W_h (i := .getfield 10) 59 rfl rfl (h_gr (a := 7) (k := 0) (m := 9) hS ly_7 rfl) rfl ?_
      refine gk_W_s 1 (pc1 := 60) (l1 := [some (.ref 8), some (.int x1)]) (st1 := [.int x1, .ref 9, .ref 11]) rfl ?_
      obtain ⟨hb7, h⟩ := h
      refine gk_W_c (i := .invokevirtual 32) [.long (f_23 w 8 x1), .ref 11] 63 rfl rfl (c_v (a := 8) hS ly_8 rfl rfl (Nat.le_of_ble_eq_true rfl)) (f_23_E hS rs_8 x1 hb7) rfl rfl ?_
      refine gk_W_c (i := .invokestatic 85) [.int (f_25 (f_23 w 8 x1)), .ref 11] 66 rfl rfl rfl (f_25_E (f_23 w 8 x1)) rfl rfl ?_
      refine gk_W_s 1 (pc1 := 67) (l1 := [some (.ref 8), some (.int x1)]) (st1 := [.int (f_25 (f_23 w 8 x1)), .ref 11, .int (f_25 (f_23 w 8 x1)), .ref 11]) rfl ?_
      obtain ⟨hb8, h⟩ := h
      refine gk_W_h (i := .iaload) 68 rfl rfl (h_al (a := 10) (scr := none) hS ly_10 hb8) rfl ?_
      refine gk_W_s 1 (pc1 := 69) (l1 := [some (.ref 8), some (.int x1)]) (st1 := [.ref 8, .int ((w_a w 10).getD (f_25 (f_23 w 8 x1)).toNatClampNeg 0), .int (f_25 (f_23 w 8 x1)), .ref 11]) rfl ?_
      refine gk_W_h (i := .getfield 10) 72 rfl rfl (h_gr (a := 7) (k := 0) (m := 9) hS ly_7 rfl) rfl ?_
      refine gk_W_s 1 (pc1 := 73) (l1 := [some (.ref 8), some (.int x1)]) (st1 := [.int x1, .ref 9, .int ((w_a w 10).getD (f_25 (f_23 w 8 x1)).toNatClampNeg 0), .int (f_25 (f_23 w 8 x1)), .ref 11]) rfl ?_
      obtain ⟨hb9, h⟩ := h
      refine gk_W_c (i := .invokevirtual 32) [.long (f_23 w 8 x1), .int ((w_a w 10).getD (f_25 (f_23 w 8 x1)).toNatClampNeg 0), .int (f_25 (f_23 w 8 x1)), .ref 11] 76 rfl rfl (c_v (a := 8) hS ly_8 rfl rfl (Nat.le_of_ble_eq_true rfl)) (f_23_E hS rs_8 x1 hb9) rfl rfl ?_
      obtain ⟨v11, hE10, h⟩ := h
      refine gk_W_c (i := .invokestatic 88) [.int v11, .int ((w_a w 10).getD (f_25 (f_23 w 8 x1)).toNatClampNeg 0), .int (f_25 (f_23 w 8 x1)), .ref 11] 79 rfl rfl rfl hE10 rfl rfl ?_
      refine gk_W_s 1 (pc1 := 80) (l1 := [some (.ref 8), some (.int x1)]) (st1 := [.int (((w_a w 10).getD (f_25 (f_23 w 8 x1)).toNatClampNeg 0) ||| v11), .int (f_25 (f_23 w 8 x1)), .ref 11]) rfl ?_
      obtain ⟨hb12, h⟩ := h
      refine gk_W_h (i := .iastore) 81 rfl rfl (h_as (a := 10) (t := 0) hS ly_10 hb12 rfl) rfl ?_
      refine gk_W_s 2 (pc1 := 26) (l1 := [some (.ref 8), some (.int (x1 + 1))]) (st1 := []) rfl ?_
      exact h
/-- GrammarDesk$Cleaner.giveToRenamed(LGrammarDesk$RuleSet;J)Z, at 0 -/
theorem sg_104_0 {d : Nat} {rr : List gk_S} {w w' : gk_Wd} {r : gk_Res} (hS : gk_Sh rr w) {a : Nat} (haa : gk_rs a) (y2 : Int64)
    (h : gk_W none (d + 2) 104 3 [some (.ref 8), some (.ref (a + 1)), some (.long y2), none, some (.int 0)] [] w r w') :
    gk_W none (d + 2) 104 0 [some (.ref 8), some (.ref (a + 1)), some (.long y2), none, none] [] w r w' := by
  refine gk_W_s 2 (pc1 := 3) (l1 := [some (.ref 8), some (.ref (a + 1)), some (.long y2), none, some (.int 0)]) (st1 := []) rfl ?_
  exact h
/-- GrammarDesk$Cleaner.giveToRenamed(LGrammarDesk$RuleSet;J)Z, at 3 -/
theorem sg_104_3 {d : Nat} {rr : List gk_S} {w w' : gk_Wd} {r : gk_Res} (hS : gk_Sh rr w) {a : Nat} (haa : gk_rs a) (y2 : Int64) (x4 : Int32)
    (h : ((16 ≤ x4 → (r = .inl (some (.int 1)) ∧ w' = w)) ∧ (¬ (16 ≤ x4) → (gk_out x4 16 = false ∧ (((f_36 ((w_a w 10).getD x4.toNatClampNeg 0) (f_25 y2)) = 0 → gk_W none (d + 2) 104 3 [some (.ref 8), some (.ref (a + 1)), some (.long y2), none, some (.int (x4 + 1))] [] w r w') ∧ (¬ ((f_36 ((w_a w 10).getD x4.toNatClampNeg 0) (f_25 y2)) = 0) → (∃ (v5 : Int32), ∃ (w6 : gk_Wd), gk_E (d + 1) 94 [.ref (a + 1), .long (f_105 y2 x4)] w (.inl (some (.int v5))) w6 ∧ gk_Sh rr w6 ∧ ((¬ v5 = 0 → gk_W none (d + 2) 104 3 [some (.ref 8), some (.ref (a + 1)), some (.long y2), none, some (.int (x4 + 1))] [] w6 r w') ∧ (v5 = 0 → (r = .inl (some (.int 0)) ∧ w' = w6)))))))))) :
    gk_W none (d + 2) 104 3 [some (.ref 8), some (.ref (a + 1)), some (.long y2), none, some (.int x4)] [] w r w' := by
  refine gk_W_s 2 (pc1 := 6) (l1 := [some (.ref 8), some (.ref (a + 1)), some (.long y2), none, some (.int x4)]) (st1 := [.ref 8, .int x4]) rfl ?_
  refine gk_W_h (i := .getfield 18) 9 rfl rfl (h_gr (a := 7) (k := 1) (m := 11) hS ly_7 rfl) rfl ?_
  refine gk_W_h (i := .arraylength) 10 rfl rfl (h_len (a := 10) (scr := none) hS ly_10 (Nat.lt_of_sub_eq_succ rfl)) rfl ?_
  refine gk_W_b 1 (16 ≤ x4) (t := 51) (e := 13) (l1 := [some (.ref 8), some (.ref (a + 1)), some (.long y2), none, some (.int x4)]) (st1 := []) rfl (fun hp1 => ?_) (fun hp1 => ?_)
  · have h := h.1 hp1
    refine gk_W_s 1 (pc1 := 52) (l1 := [some (.ref 8), some (.ref (a + 1)), some (.long y2), none, some (.int x4)]) (st1 := [.int 1]) rfl ?_
    obtain ⟨rfl, rfl⟩ := h
    exact gk_W_r (i := .ireturn) rfl rfl rfl
  · have h := h.2 hp1
    refine gk_W_s 1 (pc1 := 14) (l1 := [some (.ref 8), some (.ref (a + 1)), some (.long y2), none, some (.int x4)]) (st1 := [.ref 8]) rfl ?_
    refine gk_W_h (i := .getfield 18) 17 rfl rfl (h_gr (a := 7) (k := 1) (m := 11) hS ly_7 rfl) rfl ?_
    refine gk_W_s 1 (pc1 := 19) (l1 := [some (.ref 8), some (.ref (a + 1)), some (.long y2), none, some (.int x4)]) (st1 := [.int x4, .ref 11]) rfl ?_
    obtain ⟨hb2, h⟩ := h
    refine gk_W_h (i := .iaload) 20 rfl rfl (h_al (a := 10) (scr := none) hS ly_10 hb2) rfl ?_
    refine gk_W_s 1 (pc1 := 21) (l1 := [some (.ref 8), some (.ref (a + 1)), some (.long y2), none, some (.int x4)]) (st1 := [.long y2, .int ((w_a w 10).getD x4.toNatClampNeg 0)]) rfl ?_
    refine gk_W_c (i := .invokestatic 85) [.int (f_25 y2), .int ((w_a w 10).getD x4.toNatClampNeg 0)] 24 rfl rfl rfl (f_25_E y2) rfl rfl ?_
    refine gk_W_c (i := .invokestatic 60) [.int (f_36 ((w_a w 10).getD x4.toNatClampNeg 0) (f_25 y2))] 27 rfl rfl rfl (f_36_E ((w_a w 10).getD x4.toNatClampNeg 0) (f_25 y2)) rfl rfl ?_
    refine gk_W_b 1 ((f_36 ((w_a w 10).getD x4.toNatClampNeg 0) (f_25 y2)) = 0) (t := 45) (e := 30) (l1 := [some (.ref 8), some (.ref (a + 1)), some (.long y2), none, some (.int x4)]) (st1 := []) rfl (fun hp3 => ?_) (fun hp3 => ?_)
    · have h := h.1 hp3
      refine gk_W_s 2 (pc1 := 3) (l1 := [some (.ref 8), some (.ref (a + 1)), some (.long y2), none, some (.int (x4 + 1))]) (st1 := []) rfl ?_
      exact h
    · have h := h.2 hp3
      refine gk_W_s 3 (pc1 := 34) (l1 := [some (.ref 8), some (.ref (a + 1)), some (.long y2), none, some (.int x4)]) (st1 := [.int x4, .long y2, .ref (a + 1)]) rfl ?_
      refine gk_W_c (i := .invokestatic 95) [.long (f_105 y2 x4), .ref (a + 1)] 37 rfl rfl rfl (f_105_E y2 x4) rfl rfl ?_
      obtain ⟨v5, w6, hE4, hS7, h⟩ := h
      refine gk_W_c (i := .invokevirtual 68) [.int v5] 40 rfl rfl (c_v (a := a) hS haa.1 rfl rfl (Nat.le_of_ble_eq_true rfl)) hE4 rfl rfl ?_
      refine gk_W_b 1 (¬ v5 = 0) (t := 45) (e := 43) (l1 := [some (.ref 8), some (.ref (a + 1)), some (.long y2), none, some (.int x4)]) (st1 := []) rfl (fun hp8 => ?_) (fun hp8 => ?_)
      · have h := h.1 hp8
        refine gk_W_s 2 (pc1 := 3) (l1 := [some (.ref 8), some (.ref (a + 1)), some (.long y2), none, some (.int (x4 + 1))]) (st1 := []) rfl ?_
        exact h
      · have h := h.2 (Decidable.not_not.mp hp8)
        refine gk_W_s 1 (pc1 := 44) (l1 := [some (.ref 8), some (.ref (a + 1)), some (.long y2), none, some (.int x4)]) (st1 := [.int 0]) rfl ?_
        obtain ⟨rfl, rfl⟩ := h
        exact gk_W_r (i := .ireturn) rfl rfl rfl
/-- GrammarDesk$RuleSet.leftSides()I, at 0 -/
theorem sg_109_0 {d : Nat} {rr : List gk_S} {w w' : gk_Wd} {r : gk_Res} (hS : gk_Sh rr w) {a : Nat} (haa : gk_rs a)
    (h : gk_W none (d + 1) 109 4 [some (.ref (a + 1)), some (.int 0), some (.int 0)] [] w r w') :
    gk_W none (d + 1) 109 0 [some (.ref (a + 1)), none, none] [] w r w' := by
  refine gk_W_s 4 (pc1 := 4) (l1 := [some (.ref (a + 1)), some (.int 0), some (.int 0)]) (st1 := []) rfl ?_
  exact h
/-- GrammarDesk$RuleSet.leftSides()I, at 4 -/
theorem sg_109_4 {d : Nat} {rr : List gk_S} {w w' : gk_Wd} {r : gk_Res} (hS : gk_Sh rr w) {a : Nat} (haa : gk_rs a) (x1 : Int32) (x2 : Int32)
    (h : (((w_i w a 1) ≤ x2 → (r = .inl (some (.int x1)) ∧ w' = w)) ∧ (¬ ((w_i w a 1) ≤ x2) → (gk_out x2 60 = false ∧ gk_W none (d + 1) 109 4 [some (.ref (a + 1)), some (.int (x1 ||| (1 <<< ((f_25 ((w_l w (a + 1)).getD x2.toNatClampNeg 0)) &&& 31)))), some (.int (x2 + 1))] [] w r w')))) :
    gk_W none (d + 1) 109 4 [some (.ref (a + 1)), some (.int x1), some (.int x2)] [] w r w' := by
  refine gk_W_s 2 (pc1 := 6) (l1 := [some (.ref (a + 1)), some (.int x1), some (.int x2)]) (st1 := [.ref (a + 1), .int x2]) rfl ?_
  refine gk_W_h (i := .getfield 15) 9 rfl rfl (h_gi (a := a) (k := 1) hS haa.1 rfl) rfl ?_
  refine gk_W_b 1 ((w_i w a 1) ≤ x2) (t := 32) (e := 12) (l1 := [some (.ref (a + 1)), some (.int x1), some (.int x2)]) (st1 := []) rfl (fun hp1 => ?_) (fun hp1 => ?_)
  · have h := h.1 hp1
    refine gk_W_s 1 (pc1 := 33) (l1 := [some (.ref (a + 1)), some (.int x1), some (.int x2)]) (st1 := [.int x1]) rfl ?_
    obtain ⟨rfl, rfl⟩ := h
    exact gk_W_r (i := .ireturn) rfl rfl rfl
  · have h := h.2 hp1
    refine gk_W_s 3 (pc1 := 15) (l1 := [some (.ref (a + 1)), some (.int x1), some (.int x2)]) (st1 := [.ref (a + 1), .int 1, .int x1]) rfl ?_
    refine gk_W_h (i := .getfield 11) 18 rfl rfl (h_gr (a := a) (k := 0) (m := (a + 1 + 1)) hS haa.1 rfl) rfl ?_
    refine gk_W_s 1 (pc1 := 19) (l1 := [some (.ref (a + 1)), some (.int x1), some (.int x2)]) (st1 := [.int x2, .ref (a + 1 + 1), .int 1, .int x1]) rfl ?_
    obtain ⟨hb2, h⟩ := h
    refine gk_W_h (i := .laload) 20 rfl rfl (h_ll (a := a + 1) hS haa.2 hb2) rfl ?_
    refine gk_W_c (i := .invokestatic 37) [.int (f_25 ((w_l w (a + 1)).getD x2.toNatClampNeg 0)), .int 1, .int x1] 23 rfl rfl rfl (f_25_E ((w_l w (a + 1)).getD x2.toNatClampNeg 0)) rfl rfl ?_
    refine gk_W_s 5 (pc1 := 4) (l1 := [some (.ref (a + 1)), some (.int (x1 ||| (1 <<< ((f_25 ((w_l w (a + 1)).getD x2.toNatClampNeg 0)) &&& 31)))), some (.int (x2 + 1))]) (st1 := []) rfl ?_
    exact h
/-- GrammarDesk$Packed.appendFrom(JJI)J, at 0 -/
theorem sg_113_0 {d : Nat} {rr : List gk_S} {w w' : gk_Wd} {r : gk_Res} (hS : gk_Sh rr w) (y0 : Int64) (y2 : Int64) (x4 : Int32)
    (h : gk_W none (d + 2) 113 7 [none, none, some (.long y2), none, none, some (.long y0), none, some (.int x4)] [] w r w') :
    gk_W none (d + 2) 113 0 [some (.long y0), none, some (.long y2), none, some (.int x4), none, none, none] [] w r w' := by
  refine gk_W_s 4 (pc1 := 7) (l1 := [some (.long y0), none, some (.long y2), none, some (.int x4), some (.long y0), none, some (.int x4)]) (st1 := []) rfl ?_
  exact gk_W_le (gk_le_n (gk_le_s (gk_le_s (gk_le_s (gk_le_n (gk_le_s (gk_le_s (gk_le_s (gk_le_0))))))))) h
/-- GrammarDesk$Packed.appendFrom(JJI)J, at 7 -/
theorem sg_113_7 {d : Nat} {rr : List gk_S} {w w' : gk_Wd} {r : gk_Res} (hS : gk_Sh rr w) (y2 : Int64) (y5 : Int64) (x7 : Int32)
    (h : (((f_24 y2) < x7 → (r = .inl (some (.long y5)) ∧ w' = w)) ∧ (¬ ((f_24 y2) < x7) → gk_W none (d + 2) 113 7 [none, none, some (.long y2), none, none, some (.long (f_91 y5 (f_26 y2 x7))), none, some (.int (x7 + 1))] [] w r w'))) :
    gk_W none (d + 2) 113 7 [none, none, some (.long y2), none, none, some (.long y5), none, some (.int x7)] [] w r w' := by
  refine gk_W_s 2 (pc1 := 10) (l1 := [none, none, some (.long y2), none, none, some (.long y5), none, some (.int x7)]) (st1 := [.long y2, .int x7]) rfl ?_
  refine gk_W_c (i := .invokestatic 15) [.int (f_24 y2), .int x7] 13 rfl rfl rfl (f_24_E y2) rfl rfl ?_
  refine gk_W_b 1 ((f_24 y2) < x7) (t := 35) (e := 16) (l1 := [none, none, some (.long y2), none, none, some (.long y5), none, some (.int x7)]) (st1 := []) rfl (fun hp1 => ?_) (fun hp1 => ?_)
  · have h := h.1 hp1
    refine gk_W_s 1 (pc1 := 37) (l1 := [none, none, some (.long y2), none, none, some (.long y5), none, some (.int x7)]) (st1 := [.long y5]) rfl ?_
    obtain ⟨rfl, rfl⟩ := h
    exact gk_W_r (i := .lreturn) rfl rfl rfl
  · have h := h.2 hp1
    refine gk_W_s 3 (pc1 := 21) (l1 := [none, none, some (.long y2), none, none, some (.long y5), none, some (.int x7)]) (st1 := [.int x7, .long y2, .long y5]) rfl ?_
    refine gk_W_c (i := .invokestatic 21) [.int (f_26 y2 x7), .long y5] 24 rfl rfl rfl (f_26_E y2 x7) rfl rfl ?_
    refine gk_W_c (i := .invokestatic 25) [.long (f_91 y5 (f_26 y2 x7))] 27 rfl rfl rfl (f_91_E y5 (f_26 y2 x7)) rfl rfl ?_
    refine gk_W_s 3 (pc1 := 7) (l1 := [none, none, some (.long y2), none, none, some (.long (f_91 y5 (f_26 y2 x7))), none, some (.int (x7 + 1))]) (st1 := []) rfl ?_
    exact h
/-- GrammarDesk$RuleSet.freeVariable()I, at 0 -/
theorem sg_117_0 {d : Nat} {rr : List gk_S} {w w' : gk_Wd} {r : gk_Res} (hS : gk_Sh rr w) {a : Nat} (haa : gk_rs a)
    (h : (∃ (v2 : Int32), gk_E d 109 [.ref (a + 1)] w (.inl (some (.int v2))) w ∧ gk_W none (d + 1) 117 7 [some (.ref (a + 1)), some (.int v2), some (.int 0)] [] w r w')) :
    gk_W none (d + 1) 117 0 [some (.ref (a + 1)), none, none] [] w r w' := by
  refine gk_W_s 1 (pc1 := 1) (l1 := [some (.ref (a + 1)), none, none]) (st1 := [.ref (a + 1)]) rfl ?_
  obtain ⟨v2, hE1, h⟩ := h
  refine gk_W_c (i := .invokevirtual 40) [.int v2] 4 rfl rfl (c_v (a := a) hS haa.1 rfl rfl (Nat.le_of_ble_eq_true rfl)) hE1 rfl rfl ?_
  refine gk_W_s 3 (pc1 := 7) (l1 := [some (.ref (a + 1)), some (.int v2), some (.int 0)]) (st1 := []) rfl ?_
  exact h
/-- GrammarDesk$RuleSet.freeVariable()I, at 7 -/
theorem sg_117_7 {d : Nat} {rr : List gk_S} {w w' : gk_Wd} {r : gk_Res} (hS : gk_Sh rr w) {a : Nat} (haa : gk_rs a) (x1 : Int32) (x2 : Int32)
    (h : (((w_i w a 1) ≤ x2 → gk_W none (d + 1) 117 35 [none, some (.int x1), some (.int 0)] [] w r w') ∧ (¬ ((w_i w a 1) ≤ x2) → (gk_out x2 60 = false ∧ (∃ (v4 : Int32), gk_E d 33 [.long ((w_l w (a + 1)).getD x2.toNatClampNeg 0)] w (.inl (some (.int v4))) w ∧ gk_W none (d + 1) 117 7 [some (.ref (a + 1)), some (.int (x1 ||| v4)), some (.int (x2 + 1))] [] w r w'))))) :
    gk_W none (d + 1) 117 7 [some (.ref (a + 1)), some (.int x1), some (.int x2)] [] w r w' := by
  refine gk_W_s 2 (pc1 := 9) (l1 := [some (.ref (a + 1)), some (.int x1), some (.int x2)]) (st1 := [.ref (a + 1), .int x2]) rfl ?_
  refine gk_W_h (i := .getfield 15) 12 rfl rfl (h_gi (a := a) (k := 1) hS haa.1 rfl) rfl ?_
  refine gk_W_b 1 ((w_i w a 1) ≤ x2) (t := 33) (e := 15) (l1 := [some (.ref (a + 1)), some (.int x1), some (.int x2)]) (st1 := []) rfl (fun hp1 => ?_) (fun hp1 => ?_)
  · have h := h.1 hp1
    refine gk_W_s 2 (pc1 := 35) (l1 := [some (.ref (a + 1)), some (.int x1), some (.int 0)]) (st1 := []) rfl ?_
    exact gk_W_le (gk_le_n (gk_le_s (gk_le_s (gk_le_0)))) h
  · have h := h.2 hp1
    refine gk_W_s 2 (pc1 := 17) (l1 := [some (.ref (a + 1)), some (.int x1), some (.int x2)]) (st1 := [.ref (a + 1), .int x1]) rfl ?_
    refine gk_W_h (i := .getfield 11) 20 rfl rfl (h_gr (a := a) (k := 0) (m := (a + 1 + 1)) hS haa.1 rfl) rfl ?_
    refine gk_W_s 1 (pc1 := 21) (l1 := [some (.ref (a + 1)), some (.int x1), some (.int x2)]) (st1 := [.int x2, .ref (a + 1 + 1), .int x1]) rfl ?_
    obtain ⟨hb2, h⟩ := h
    refine gk_W_h (i := .laload) 22 rfl rfl (h_ll (a := a + 1) hS haa.2 hb2) rfl ?_
    obtain ⟨v4, hE3, h⟩ := h
    refine gk_W_c (i := .invokestatic 44) [.int v4, .int x1] 25 rfl rfl rfl hE3 rfl rfl ?_
    refine gk_W_s 4 (pc1 := 7) (l1 := [some (.ref (a + 1)), some (.int (x1 ||| v4)), some (.int (x2 + 1))]) (st1 := []) rfl ?_
    exact h
/-- GrammarDesk$RuleSet.freeVariable()I, at 35 -/
theorem sg_117_35 {d : Nat} {rr : List gk_S} {w w' : gk_Wd} {r : gk_Res} (hS : gk_Sh rr w) {a : Nat} (haa : gk_rs a) (x1 : Int32) (x2 : Int32)
    (h : ((16 ≤ x2 → (r = .inl (some (.int ((-1)))) ∧ w' = w)) ∧ (¬ (16 ≤ x2) → ((¬ (f_36 x1 x2) = 0 → gk_W none (d + 1) 117 35 [none, some (.int x1), some (.int (x2 + 1))] [] w r w') ∧ ((f_36 x1 x2) = 0 → (r = .inl (some (.int x2)) ∧ w' = w)))))) :
    gk_W none (d + 1) 117 35 [none, some (.int x1), some (.int x2)] [] w r w' := by
  refine gk_W_b 3 (16 ≤ x2) (t := 57) (e := 41) (l1 := [none, some (.int x1), some (.int x2)]) (st1 := []) rfl (fun hp1 => ?_) (fun hp1 => ?_)
  · have h := h.1 hp1
    refine gk_W_s 1 (pc1 := 58) (l1 := [none, some (.int x1), some (.int x2)]) (st1 := [.int ((-1))]) rfl ?_
    obtain ⟨rfl, rfl⟩ := h
    exact gk_W_r (i := .ireturn) rfl rfl rfl
  · have h := h.2 hp1
    refine gk_W_s 2 (pc1 := 43) (l1 := [none, some (.int x1), some (.int x2)]) (st1 := [.int x2, .int x1]) rfl ?_
    refine gk_W_c (i := .invokestatic 47) [.int (f_36 x1 x2)] 46 rfl rfl rfl (f_36_E x1 x2) rfl rfl ?_
    refine gk_W_b 1 (¬ (f_36 x1 x2) = 0) (t := 51) (e := 49) (l1 := [none, some (.int x1), some (.int x2)]) (st1 := []) rfl (fun hp2 => ?_) (fun hp2 => ?_)
    · have h := h.1 hp2
      refine gk_W_s 2 (pc1 := 35) (l1 := [none, some (.int x1), some (.int (x2 + 1))]) (st1 := []) rfl ?_
      exact h
    · have h := h.2 (Decidable.not_not.mp hp2)
      refine gk_W_s 1 (pc1 := 50) (l1 := [none, some (.int x1), some (.int x2)]) (st1 := [.int x2]) rfl ?_
      obtain ⟨rfl, rfl⟩ := h
      exact gk_W_r (i := .ireturn) rfl rfl rfl
/-- GrammarDesk$RuleSet.remove(J)V, at 0 -/
theorem sg_119_0 {d : Nat} {rr : List gk_S} {w w' : gk_Wd} {r : gk_Res} (hS : gk_Sh rr w) {a : Nat} (haa : gk_rs a) (y1 : Int64)
    (h : (∃ (v2 : Int32), gk_E d 93 [.ref (a + 1), .long y1] w (.inl (some (.int v2))) w ∧ (((w_i w a 1) ≤ v2 → (r = .inl none ∧ w' = w)) ∧ (¬ ((w_i w a 1) ≤ v2) → (gk_out v2 60 = false ∧ ((¬ (lg_cmp ((w_l w (a + 1)).getD v2.toNatClampNeg 0) y1) = 0 → (r = .inl none ∧ w' = w)) ∧ ((lg_cmp ((w_l w (a + 1)).getD v2.toNatClampNeg 0) y1) = 0 → (∃ (w7 : gk_Wd), gk_E d 14 [.ref (a + 1), .int v2] w (.inl none) w7 ∧ gk_Sh rr w7 ∧ (r = .inl none ∧ w' = w7))))))))) :
    gk_W none (d + 1) 119 0 [some (.ref (a + 1)), some (.long y1), none, none] [] w r w' := by
  refine gk_W_s 2 (pc1 := 2) (l1 := [some (.ref (a + 1)), some (.long y1), none, none]) (st1 := [.long y1, .ref (a + 1)]) rfl ?_
  obtain ⟨v2, hE1, h⟩ := h
  refine gk_W_c (i := .invokevirtual 19) [.int v2] 5 rfl rfl (c_v (a := a) hS haa.1 rfl rfl (Nat.le_of_ble_eq_true rfl)) hE1 rfl rfl ?_
  refine gk_W_s 3 (pc1 := 8) (l1 := [some (.ref (a + 1)), some (.long y1), none, some (.int v2)]) (st1 := [.ref (a + 1), .int v2]) rfl ?_
  refine gk_W_h (i := .getfield 15) 11 rfl rfl (h_gi (a := a) (k := 1) hS haa.1 rfl) rfl ?_
  refine gk_W_b 1 ((w_i w a 1) ≤ v2) (t := 30) (e := 14) (l1 := [some (.ref (a + 1)), some (.long y1), none, some (.int v2)]) (st1 := []) rfl (fun hp3 => ?_) (fun hp3 => ?_)
  · have h := h.1 hp3
    obtain ⟨rfl, rfl⟩ := h
    exact gk_W_r (i := .return_) rfl rfl rfl
  · have h := h.2 hp3
    refine gk_W_s 1 (pc1 := 15) (l1 := [some (.ref (a + 1)), some (.long y1), none, some (.int v2)]) (st1 := [.ref (a + 1)]) rfl ?_
    refine gk_W_h (i := .getfield 11) 18 rfl rfl (h_gr (a := a) (k := 0) (m := (a + 1 + 1)) hS haa.1 rfl) rfl ?_
    refine gk_W_s 1 (pc1 := 19) (l1 := [some (.ref (a + 1)), some (.long y1), none, some (.int v2)]) (st1 := [.int v2, .ref (a + 1 + 1)]) rfl ?_
    obtain ⟨hb4, h⟩ := h
    refine gk_W_h (i := .laload) 20 rfl rfl (h_ll (a := a + 1) hS haa.2 hb4) rfl ?_
    refine gk_W_b 3 (¬ (lg_cmp ((w_l w (a + 1)).getD v2.toNatClampNeg 0) y1) = 0) (t := 30) (e := 25) (l1 := [some (.ref (a + 1)), some (.long y1), none, some (.int v2)]) (st1 := []) rfl (fun hp5 => ?_) (fun hp5 => ?_)
    · have h := h.1 hp5
      obtain ⟨rfl, rfl⟩ := h
      exact gk_W_r (i := .return_) rfl rfl rfl
    · have h := h.2 (Decidable.not_not.mp hp5)
      refine gk_W_s 2 (pc1 := 27) (l1 := [some (.ref (a + 1)), some (.long y1), none, some (.int v2)]) (st1 := [.int v2, .ref (a + 1)]) rfl ?_
      obtain ⟨w7, hE6, hS8, h⟩ := h
      refine gk_W_c (i := .invokevirtual 33) [] 30 rfl rfl (c_v (a := a) hS haa.1 rfl rfl (Nat.le_of_ble_eq_true rfl)) hE6 rfl rfl ?_
      obtain ⟨rfl, rfl⟩ := h
      exact gk_W_r (i := .return_) rfl rfl rfl
/-- GrammarDesk$Packed.hasBehindFirst(JI)Z, at 0 -/
theorem sg_124_0 {d : Nat} {rr : List gk_S} {w w' : gk_Wd} {r : gk_Res} (hS : gk_Sh rr w) (y0 : Int64) (x2 : Int32)
    (h : gk_W none (d + 1) 124 2 [some (.long y0), none, some (.int x2), some (.int 2)] [] w r w') :
    gk_W none (d + 1) 124 0 [some (.long y0), none, some (.int x2), none] [] w r w' := by
  refine gk_W_s 2 (pc1 := 2) (l1 := [some (.long y0), none, some (.int x2), some (.int 2)]) (st1 := []) rfl ?_
  exact h
/-- GrammarDesk$Packed.hasBehindFirst(JI)Z, at 2 -/
theorem sg_124_2 {d : Nat} {rr : List gk_S} {w w' : gk_Wd} {r : gk_Res} (hS : gk_Sh rr w) (y0 : Int64) (x2 : Int32) (x3 : Int32)
    (h : (((f_24 y0) < x3 → (r = .inl (some (.int 0)) ∧ w' = w)) ∧ (¬ ((f_24 y0) < x3) → ((¬ (f_26 y0 x3) = x2 → gk_W none (d + 1) 124 2 [some (.long y0), none, some (.int x2), some (.int (x3 + 1))] [] w r w') ∧ ((f_26 y0 x3) = x2 → (r = .inl (some (.int 1)) ∧ w' = w)))))) :
    gk_W none (d + 1) 124 2 [some (.long y0), none, some (.int x2), some (.int x3)] [] w r w' := by
  refine gk_W_s 2 (pc1 := 4) (l1 := [some (.long y0), none, some (.int x2), some (.int x3)]) (st1 := [.long y0, .int x3]) rfl ?_
  refine gk_W_c (i := .invokestatic 15) [.int (f_24 y0), .int x3] 7 rfl rfl rfl (f_24_E y0) rfl rfl ?_
  refine gk_W_b 1 ((f_24 y0) < x3) (t := 27) (e := 10) (l1 := [some (.long y0), none, some (.int x2), some (.int x3)]) (st1 := []) rfl (fun hp1 => ?_) (fun hp1 => ?_)
  · have h := h.1 hp1
    refine gk_W_s 1 (pc1 := 28) (l1 := [some (.long y0), none, some (.int x2), some (.int x3)]) (st1 := [.int 0]) rfl ?_
    obtain ⟨rfl, rfl⟩ := h
    exact gk_W_r (i := .ireturn) rfl rfl rfl
  · have h := h.2 hp1
    refine gk_W_s 2 (pc1 := 12) (l1 := [some (.long y0), none, some (.int x2), some (.int x3)]) (st1 := [.int x3, .long y0]) rfl ?_
    refine gk_W_c (i := .invokestatic 21) [.int (f_26 y0 x3)] 15 rfl rfl rfl (f_26_E y0 x3) rfl rfl ?_
    refine gk_W_b 2 (¬ (f_26 y0 x3) = x2) (t := 21) (e := 19) (l1 := [some (.long y0), none, some (.int x2), some (.int x3)]) (st1 := []) rfl (fun hp2 => ?_) (fun hp2 => ?_)
    · have h := h.1 hp2
      refine gk_W_s 2 (pc1 := 2) (l1 := [some (.long y0), none, some (.int x2), some (.int (x3 + 1))]) (st1 := []) rfl ?_
      exact h
    · have h := h.2 (Decidable.not_not.mp hp2)
      refine gk_W_s 1 (pc1 := 20) (l1 := [some (.long y0), none, some (.int x2), some (.int x3)]) (st1 := [.int 1]) rfl ?_
      obtain ⟨rfl, rfl⟩ := h
      exact gk_W_r (i := .ireturn) rfl rfl rfl
/-- GrammarDesk$Packed.renamedBehindFirst(JII)J, at 0 -/
theorem sg_126_0 {d : Nat} {rr : List gk_S} {w w' : gk_Wd} {r : gk_Res} (hS : gk_Sh rr w) (y0 : Int64) (x2 : Int32) (x3 : Int32)
    (h : gk_W none (d + 2) 126 12 [some (.long y0), none, some (.int x2), some (.int x3), some (.long (f_90 (f_25 y0))), none, some (.int 1), none] [] w r w') :
    gk_W none (d + 2) 126 0 [some (.long y0), none, some (.int x2), some (.int x3), none, none, none, none] [] w r w' := by
  refine gk_W_s 1 (pc1 := 1) (l1 := [some (.long y0), none, some (.int x2), some (.int x3), none, none, none, none]) (st1 := [.long y0]) rfl ?_
  refine gk_W_c (i := .invokestatic 29) [.int (f_25 y0)] 4 rfl rfl rfl (f_25_E y0) rfl rfl ?_
  refine gk_W_c (i := .invokestatic 32) [.long (f_90 (f_25 y0))] 7 rfl rfl rfl (f_90_E (f_25 y0)) rfl rfl ?_
  refine gk_W_s 3 (pc1 := 12) (l1 := [some (.long y0), none, some (.int x2), some (.int x3), some (.long (f_90 (f_25 y0))), none, some (.int 1), none]) (st1 := []) rfl ?_
  exact h
/-- GrammarDesk$Packed.renamedBehindFirst(JII)J, at 12 -/
theorem sg_126_12 {d : Nat} {rr : List gk_S} {w w' : gk_Wd} {r : gk_Res} (hS : gk_Sh rr w) (y0 : Int64) (x2 : Int32) (x3 : Int32) (y4 : Int64) (x6 : Int32)
    (h : (((f_24 y0) < x6 → (r = .inl (some (.long y4)) ∧ w' = w)) ∧ (¬ ((f_24 y0) < x6) → ((x6 ≤ 1 → gk_W none (d + 2) 126 12 [some (.long y0), none, some (.int x2), some (.int x3), some (.long (f_91 y4 (f_26 y0 x6))), none, some (.int (x6 + 1)), none] [] w r w') ∧ (¬ (x6 ≤ 1) → ((¬ (f_26 y0 x6) = x2 → gk_W none (d + 2) 126 12 [some (.long y0), none, some (.int x2), some (.int x3), some (.long (f_91 y4 (f_26 y0 x6))), none, some (.int (x6 + 1)), none] [] w r w') ∧ ((f_26 y0 x6) = x2 → gk_W none (d + 2) 126 12 [some (.long y0), none, some (.int x2), some (.int x3), some (.long (f_91 y4 x3)), none, some (.int (x6 + 1)), none] [] w r w'))))))) :
    gk_W none (d + 2) 126 12 [some (.long y0), none, some (.int x2), some (.int x3), some (.long y4), none, some (.int x6), none] [] w r w' := by
  refine gk_W_s 2 (pc1 := 15) (l1 := [some (.long y0), none, some (.int x2), some (.int x3), some (.long y4), none, some (.int x6), none]) (st1 := [.long y0, .int x6]) rfl ?_
  refine gk_W_c (i := .invokestatic 15) [.int (f_24 y0), .int x6] 18 rfl rfl rfl (f_24_E y0) rfl rfl ?_
  refine gk_W_b 1 ((f_24 y0) < x6) (t := 60) (e := 21) (l1 := [some (.long y0), none, some (.int x2), some (.int x3), some (.long y4), none, some (.int x6), none]) (st1 := []) rfl (fun hp1 => ?_) (fun hp1 => ?_)
  · have h := h.1 hp1
    refine gk_W_s 1 (pc1 := 62) (l1 := [some (.long y0), none, some (.int x2), some (.int x3), some (.long y4), none, some (.int x6), none]) (st1 := [.long y4]) rfl ?_
    obtain ⟨rfl, rfl⟩ := h
    exact gk_W_r (i := .lreturn) rfl rfl rfl
  · have h := h.2 hp1
    refine gk_W_s 2 (pc1 := 24) (l1 := [some (.long y0), none, some (.int x2), some (.int x3), some (.long y4), none, some (.int x6), none]) (st1 := [.int x6, .long y0]) rfl ?_
    refine gk_W_c (i := .invokestatic 21) [.int (f_26 y0 x6)] 27 rfl rfl rfl (f_26_E y0 x6) rfl rfl ?_
    refine gk_W_b 5 (x6 ≤ 1) (t := 47) (e := 37) (l1 := [some (.long y0), none, some (.int x2), some (.int x3), some (.long y4), none, some (.int x6), some (.int (f_26 y0 x6))]) (st1 := [.long y4]) rfl (fun hp2 => ?_) (fun hp2 => ?_)
    · have h := h.1 hp2
      refine gk_W_s 1 (pc1 := 49) (l1 := [some (.long y0), none, some (.int x2), some (.int x3), some (.long y4), none, some (.int x6), some (.int (f_26 y0 x6))]) (st1 := [.int (f_26 y0 x6), .long y4]) rfl ?_
      refine gk_W_c (i := .invokestatic 25) [.long (f_91 y4 (f_26 y0 x6))] 52 rfl rfl rfl (f_91_E y4 (f_26 y0 x6)) rfl rfl ?_
      refine gk_W_s 3 (pc1 := 12) (l1 := [some (.long y0), none, some (.int x2), some (.int x3), some (.long (f_91 y4 (f_26 y0 x6))), none, some (.int (x6 + 1)), some (.int (f_26 y0 x6))]) (st1 := []) rfl ?_
      exact gk_W_le (gk_le_s (gk_le_s (gk_le_s (gk_le_s (gk_le_s (gk_le_s (gk_le_s (gk_le_n (gk_le_0))))))))) h
    · have h := h.2 hp2
      refine gk_W_b 3 (¬ (f_26 y0 x6) = x2) (t := 47) (e := 43) (l1 := [some (.long y0), none, some (.int x2), some (.int x3), some (.long y4), none, some (.int x6), some (.int (f_26 y0 x6))]) (st1 := [.long y4]) rfl (fun hp3 => ?_) (fun hp3 => ?_)
      · have h := h.1 hp3
        refine gk_W_s 1 (pc1 := 49) (l1 := [some (.long y0), none, some (.int x2), some (.int x3), some (.long y4), none, some (.int x6), some (.int (f_26 y0 x6))]) (st1 := [.int (f_26 y0 x6), .long y4]) rfl ?_
        refine gk_W_c (i := .invokestatic 25) [.long (f_91 y4 (f_26 y0 x6))] 52 rfl rfl rfl (f_91_E y4 (f_26 y0 x6)) rfl rfl ?_
        refine gk_W_s 3 (pc1 := 12) (l1 := [some (.long y0), none, some (.int x2), some (.int x3), some (.long (f_91 y4 (f_26 y0 x6))), none, some (.int (x6 + 1)), some (.int (f_26 y0 x6))]) (st1 := []) rfl ?_
        exact gk_W_le (gk_le_s (gk_le_s (gk_le_s (gk_le_s (gk_le_s (gk_le_s (gk_le_s (gk_le_n (gk_le_0))))))))) h
      · have h := h.2 (Decidable.not_not.mp hp3)
        refine gk_W_s 2 (pc1 := 49) (l1 := [some (.long y0), none, some (.int x2), some (.int x3), some (.long y4), none, some (.int x6), some (.int (f_26 y0 x6))]) (st1 := [.int x3, .long y4]) rfl ?_
        refine gk_W_c (i := .invokestatic 25) [.long (f_91 y4 x3)] 52 rfl rfl rfl (f_91_E y4 x3) rfl rfl ?_
        refine gk_W_s 3 (pc1 := 12) (l1 := [some (.long y0), none, some (.int x2), some (.int x3), some (.long (f_91 y4 x3)), none, some (.int (x6 + 1)), some (.int (f_26 y0 x6))]) (st1 := []) rfl ?_
        exact gk_W_le (gk_le_s (gk_le_s (gk_le_s (gk_le_s (gk_le_s (gk_le_s (gk_le_s (gk_le_n (gk_le_0))))))))) h
