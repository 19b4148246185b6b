/-! printed by wip/whole/sym.py: methods without loops and writes -/
/-- GrammarDesk.place()I -/
def f_11 (w : gk_Wd) : Int32 := w_i w 0 8
theorem f_11_E {d : Nat} {rr : List gk_S} {w : gk_Wd} (hS : gk_Sh rr w) : gk_E (d + 0) 11 [.ref 1] w (.inl (some (.int (f_11 w)))) w := ⟨Nat.le_of_ble_eq_true rfl, by
  show gk_W none (d) 11 0 [some (.ref 1)] [] w _ w
  refine gk_W_s 1 (pc1 := 1) (l1 := [some (.ref 1)]) (st1 := [.ref 1]) rfl ?_
  refine gk_W_h (i := .getfield 63) 4 rfl rfl (h_gi (a := 0) (k := 8) hS ly_0 rfl) rfl ?_
  exact gk_W_r (i := .ireturn) rfl rfl rfl⟩
/-- GrammarDesk$RuleSet.size()I -/
def f_13 (w : gk_Wd) (a : Nat) : Int32 := w_i w a 1
theorem f_13_E {d : Nat} {rr : List gk_S} {w : gk_Wd} (hS : gk_Sh rr w) {a : Nat} (haa : gk_rs a) : gk_E (d + 0) 13 [.ref (a + 1)] w (.inl (some (.int (f_13 w a)))) w := ⟨Nat.le_of_ble_eq_true rfl, by
  show gk_W none (d) 13 0 [some (.ref (a + 1))] [] w _ w
  refine gk_W_s 1 (pc1 := 1) (l1 := [some (.ref (a + 1))]) (st1 := [.ref (a + 1)]) rfl ?_
  refine gk_W_h (i := .getfield 15) 4 rfl rfl (h_gi (a := a) (k := 1) hS haa.1 rfl) rfl ?_
  exact gk_W_r (i := .ireturn) rfl rfl rfl⟩
/-- GrammarDesk.rules()I -/
def f_21 (w : gk_Wd) : Int32 := f_13 w 3
theorem f_21_E {d : Nat} {rr : List gk_S} {w : gk_Wd} (hS : gk_Sh rr w) : gk_E (d + 1) 21 [.ref 1] w (.inl (some (.int (f_21 w)))) w := ⟨Nat.le_of_ble_eq_true rfl, by
  show gk_W none (d + 1) 21 0 [some (.ref 1)] [] w _ w
  refine gk_W_s 1 (pc1 := 1) (l1 := [some (.ref 1)]) (st1 := [.ref 1]) rfl ?_
  refine gk_W_h (i := .getfield 19) 4 rfl rfl (h_gr (a := 0) (k := 1) (m := 4) hS ly_0 rfl) rfl ?_
  refine gk_W_c (i := .invokevirtual 101) [.int (f_13 w 3)] 7 rfl rfl (c_v (a := 3) hS ly_3 rfl rfl (Nat.le_of_ble_eq_true rfl)) (f_13_E hS rs_3) rfl rfl ?_
  exact gk_W_r (i := .ireturn) rfl rfl rfl⟩
/-- GrammarDesk$RuleSet.at(I)J -/
def f_23 (w : gk_Wd) (a : Nat) (x1 : Int32) : Int64 := (w_l w (a + 1)).getD x1.toNatClampNeg 0
theorem f_23_E {d : Nat} {rr : List gk_S} {w : gk_Wd} (hS : gk_Sh rr w) {a : Nat} (haa : gk_rs a) (x1 : Int32) (hb1 : gk_out x1 60 = false) : gk_E (d + 0) 23 [.ref (a + 1), .int x1] w (.inl (some (.long (f_23 w a x1)))) w := ⟨Nat.le_of_ble_eq_true rfl, by
  show gk_W none (d) 23 0 [some (.ref (a + 1)), some (.int x1)] [] w _ w
  refine gk_W_s 1 (pc1 := 1) (l1 := [some (.ref (a + 1)), some (.int x1)]) (st1 := [.ref (a + 1)]) rfl ?_
  refine gk_W_h (i := .getfield 11) 4 rfl rfl (h_gr (a := a) (k := 0) (m := (a + 1 + 1)) hS haa.1 rfl) rfl ?_
  refine gk_W_s 1 (pc1 := 5) (l1 := [some (.ref (a + 1)), some (.int x1)]) (st1 := [.int x1, .ref (a + 1 + 1)]) rfl ?_
  refine gk_W_h (i := .laload) 6 rfl rfl (h_ll (a := a + 1) hS haa.2 hb1) rfl ?_
  exact gk_W_r (i := .lreturn) rfl rfl rfl⟩
/-- GrammarDesk$Packed.lengthOf(J)I -/
def f_24 (y0 : Int64) : Int32 := ((y0 >>> 50).toInt32) &&& 15
theorem f_24_E {d : Nat} {w : gk_Wd} (y0 : Int64) : gk_E (d + 0) 24 [.long y0] w (.inl (some (.int (f_24 y0)))) w := ⟨Nat.le_of_ble_eq_true rfl, by
  show gk_W none (d) 24 0 [some (.long y0), none] [] w _ w
  refine gk_W_s 6 (pc1 := 8) (l1 := [some (.long y0), none]) (st1 := [.int (((y0 >>> 50).toInt32) &&& 15)]) rfl ?_
  exact gk_W_r (i := .ireturn) rfl rfl rfl⟩
/-- GrammarDesk$Packed.leftOf(J)I -/
def f_25 (y0 : Int64) : Int32 := (y0 >>> 54).toInt32
theorem f_25_E {d : Nat} {w : gk_Wd} (y0 : Int64) : gk_E (d + 0) 25 [.long y0] w (.inl (some (.int (f_25 y0)))) w := ⟨Nat.le_of_ble_eq_true rfl, by
  show gk_W none (d) 25 0 [some (.long y0), none] [] w _ w
  refine gk_W_s 4 (pc1 := 5) (l1 := [some (.long y0), none]) (st1 := [.int ((y0 >>> 54).toInt32)]) rfl ?_
  exact gk_W_r (i := .ireturn) rfl rfl rfl⟩
/-- GrammarDesk$Packed.symbolOf(JI)I -/
def f_26 (y0 : Int64) (x2 : Int32) : Int32 := ((y0 >>> ((50 - (5 * x2)).toInt64 &&& 63)).toInt32) &&& 31
theorem f_26_E {d : Nat} {w : gk_Wd} (y0 : Int64) (x2 : Int32) : gk_E (d + 0) 26 [.long y0, .int x2] w (.inl (some (.int (f_26 y0 x2)))) w := ⟨Nat.le_of_ble_eq_true rfl, by
  show gk_W none (d) 26 0 [some (.long y0), none, some (.int x2)] [] w _ w
  refine gk_W_s 10 (pc1 := 12) (l1 := [some (.long y0), none, some (.int x2)]) (st1 := [.int (((y0 >>> ((50 - (5 * x2)).toInt64 &&& 63)).toInt32) &&& 31)]) rfl ?_
  exact gk_W_r (i := .ireturn) rfl rfl rfl⟩
/-- GrammarDesk$Packed.isVariable(I)Z -/
def f_28 (x0 : Int32) : Int32 := if 16 ≤ x0 then 0 else 1
theorem f_28_E {d : Nat} {w : gk_Wd} (x0 : Int32) : gk_E (d + 0) 28 [.int x0] w (.inl (some (.int (f_28 x0)))) w := ⟨Nat.le_of_ble_eq_true rfl, by
  show gk_W none (d) 28 0 [some (.int x0)] [] w _ w
  refine gk_W_b 3 (16 ≤ x0) (t := 10) (e := 6) (l1 := [some (.int x0)]) (st1 := []) rfl (fun hp1 => ?_) (fun hp1 => ?_)
  · refine gk_W_s 1 (pc1 := 11) (l1 := [some (.int x0)]) (st1 := [.int 0]) rfl ?_
    rw [show f_28 x0 = 0 by unfold f_28; rw [if_pos hp1]]
    exact gk_W_r (i := .ireturn) rfl rfl rfl
  · refine gk_W_s 2 (pc1 := 11) (l1 := [some (.int x0)]) (st1 := [.int 1]) rfl ?_
    rw [show f_28 x0 = 1 by unfold f_28; rw [if_neg hp1]]
    exact gk_W_r (i := .ireturn) rfl rfl rfl⟩
theorem f_28_b (x0 : Int32) : fits .boolean (.int (f_28 x0)) = true := by
  unfold f_28
  repeat' split
  all_goals first | rfl | rfl
/-- GrammarDesk$Packed.holds(II)Z -/
def f_36 (x0 : Int32) (x1 : Int32) : Int32 := if ((x0 >>> (x1 &&& 31)) &&& 1) = 0 then 0 else 1
theorem f_36_E {d : Nat} {w : gk_Wd} (x0 : Int32) (x1 : Int32) : gk_E (d + 0) 36 [.int x0, .int x1] w (.inl (some (.int (f_36 x0 x1)))) w := ⟨Nat.le_of_ble_eq_true rfl, by
  show gk_W none (d) 36 0 [some (.int x0), some (.int x1)] [] w _ w
  refine gk_W_b 6 (((x0 >>> (x1 &&& 31)) &&& 1) = 0) (t := 12) (e := 8) (l1 := [some (.int x0), some (.int x1)]) (st1 := []) rfl (fun hp1 => ?_) (fun hp1 => ?_)
  · refine gk_W_s 1 (pc1 := 13) (l1 := [some (.int x0), some (.int x1)]) (st1 := [.int 0]) rfl ?_
    rw [show f_36 x0 x1 = 0 by unfold f_36; rw [if_pos hp1]]
    exact gk_W_r (i := .ireturn) rfl rfl rfl
  · refine gk_W_s 2 (pc1 := 13) (l1 := [some (.int x0), some (.int x1)]) (st1 := [.int 1]) rfl ?_
    rw [show f_36 x0 x1 = 1 by unfold f_36; rw [if_neg hp1]]
    exact gk_W_r (i := .ireturn) rfl rfl rfl⟩
theorem f_36_b (x0 : Int32) (x1 : Int32) : fits .boolean (.int (f_36 x0 x1)) = true := by
  unfold f_36
  repeat' split
  all_goals first | rfl | rfl
/-- GrammarDesk$Packed.isEmpty(J)Z -/
def f_39 (y0 : Int64) : Int32 := if ¬ (f_24 y0) = 0 then 0 else 1
theorem f_39_E {d : Nat} {w : gk_Wd} (y0 : Int64) : gk_E (d + 1) 39 [.long y0] w (.inl (some (.int (f_39 y0)))) w := ⟨Nat.le_of_ble_eq_true rfl, by
  show gk_W none (d + 1) 39 0 [some (.long y0), none] [] w _ w
  refine gk_W_s 1 (pc1 := 1) (l1 := [some (.long y0), none]) (st1 := [.long y0]) rfl ?_
  refine gk_W_c (i := .invokestatic 15) [.int (f_24 y0)] 4 rfl rfl rfl (f_24_E y0) rfl rfl ?_
  refine gk_W_b 1 (¬ (f_24 y0) = 0) (t := 11) (e := 7) (l1 := [some (.long y0), none]) (st1 := []) rfl (fun hp1 => ?_) (fun hp1 => ?_)
  · refine gk_W_s 1 (pc1 := 12) (l1 := [some (.long y0), none]) (st1 := [.int 0]) rfl ?_
    rw [show f_39 y0 = 0 by unfold f_39; rw [if_pos hp1]]
    exact gk_W_r (i := .ireturn) rfl rfl rfl
  · refine gk_W_s 2 (pc1 := 12) (l1 := [some (.long y0), none]) (st1 := [.int 1]) rfl ?_
    rw [show f_39 y0 = 1 by unfold f_39; rw [if_neg hp1]]
    exact gk_W_r (i := .ireturn) rfl rfl rfl⟩
theorem f_39_b (y0 : Int64) : fits .boolean (.int (f_39 y0)) = true := by
  unfold f_39
  repeat' split
  all_goals first | rfl | rfl
/-- GrammarDesk$Packed.isUnit(J)Z -/
def f_40 (y0 : Int64) : Int32 := if ¬ (f_24 y0) = 1 then 0 else if (f_28 (f_26 y0 1)) = 0 then 0 else 1
theorem f_40_E {d : Nat} {w : gk_Wd} (y0 : Int64) : gk_E (d + 1) 40 [.long y0] w (.inl (some (.int (f_40 y0)))) w := ⟨Nat.le_of_ble_eq_true rfl, by
  show gk_W none (d + 1) 40 0 [some (.long y0), none] [] w _ w
  refine gk_W_s 1 (pc1 := 1) (l1 := [some (.long y0), none]) (st1 := [.long y0]) rfl ?_
  refine gk_W_c (i := .invokestatic 15) [.int (f_24 y0)] 4 rfl rfl rfl (f_24_E y0) rfl rfl ?_
  refine gk_W_b 2 (¬ (f_24 y0) = 1) (t := 23) (e := 8) (l1 := [some (.long y0), none]) (st1 := []) rfl (fun hp1 => ?_) (fun hp1 => ?_)
  · refine gk_W_s 1 (pc1 := 24) (l1 := [some (.long y0), none]) (st1 := [.int 0]) rfl ?_
    rw [show f_40 y0 = 0 by unfold f_40; rw [if_pos hp1]]
    exact gk_W_r (i := .ireturn) rfl rfl rfl
  · refine gk_W_s 2 (pc1 := 10) (l1 := [some (.long y0), none]) (st1 := [.int 1, .long y0]) rfl ?_
    refine gk_W_c (i := .invokestatic 21) [.int (f_26 y0 1)] 13 rfl rfl rfl (f_26_E y0 1) rfl rfl ?_
    refine gk_W_c (i := .invokestatic 9) [.int (f_28 (f_26 y0 1))] 16 rfl rfl rfl (f_28_E (f_26 y0 1)) rfl rfl ?_
    refine gk_W_b 1 ((f_28 (f_26 y0 1)) = 0) (t := 23) (e := 19) (l1 := [some (.long y0), none]) (st1 := []) rfl (fun hp2 => ?_) (fun hp2 => ?_)
    · refine gk_W_s 1 (pc1 := 24) (l1 := [some (.long y0), none]) (st1 := [.int 0]) rfl ?_
      rw [show f_40 y0 = 0 by unfold f_40; rw [if_neg hp1, if_pos hp2]]
      exact gk_W_r (i := .ireturn) rfl rfl rfl
    · refine gk_W_s 2 (pc1 := 24) (l1 := [some (.long y0), none]) (st1 := [.int 1]) rfl ?_
      rw [show f_40 y0 = 1 by unfold f_40; rw [if_neg hp1, if_neg hp2]]
      exact gk_W_r (i := .ireturn) rfl rfl rfl⟩
theorem f_40_b (y0 : Int64) : fits .boolean (.int (f_40 y0)) = true := by
  unfold f_40
  repeat' split
  all_goals first | rfl | rfl
/-- GrammarDesk$Packed.leadsWithVariable(J)Z -/
def f_42 (y0 : Int64) : Int32 := if (f_24 y0) ≤ 0 then 0 else if (f_28 (f_26 y0 1)) = 0 then 0 else 1
theorem f_42_E {d : Nat} {w : gk_Wd} (y0 : Int64) : gk_E (d + 1) 42 [.long y0] w (.inl (some (.int (f_42 y0)))) w := ⟨Nat.le_of_ble_eq_true rfl, by
  show gk_W none (d + 1) 42 0 [some (.long y0), none] [] w _ w
  refine gk_W_s 1 (pc1 := 1) (l1 := [some (.long y0), none]) (st1 := [.long y0]) rfl ?_
  refine gk_W_c (i := .invokestatic 15) [.int (f_24 y0)] 4 rfl rfl rfl (f_24_E y0) rfl rfl ?_
  refine gk_W_b 1 ((f_24 y0) ≤ 0) (t := 22) (e := 7) (l1 := [some (.long y0), none]) (st1 := []) rfl (fun hp1 => ?_) (fun hp1 => ?_)
  · refine gk_W_s 1 (pc1 := 23) (l1 := [some (.long y0), none]) (st1 := [.int 0]) rfl ?_
    rw [show f_42 y0 = 0 by unfold f_42; rw [if_pos hp1]]
    exact gk_W_r (i := .ireturn) rfl rfl rfl
  · refine gk_W_s 2 (pc1 := 9) (l1 := [some (.long y0), none]) (st1 := [.int 1, .long y0]) rfl ?_
    refine gk_W_c (i := .invokestatic 21) [.int (f_26 y0 1)] 12 rfl rfl rfl (f_26_E y0 1) rfl rfl ?_
    refine gk_W_c (i := .invokestatic 9) [.int (f_28 (f_26 y0 1))] 15 rfl rfl rfl (f_28_E (f_26 y0 1)) rfl rfl ?_
    refine gk_W_b 1 ((f_28 (f_26 y0 1)) = 0) (t := 22) (e := 18) (l1 := [some (.long y0), none]) (st1 := []) rfl (fun hp2 => ?_) (fun hp2 => ?_)
    · refine gk_W_s 1 (pc1 := 23) (l1 := [some (.long y0), none]) (st1 := [.int 0]) rfl ?_
      rw [show f_42 y0 = 0 by unfold f_42; rw [if_neg hp1, if_pos hp2]]
      exact gk_W_r (i := .ireturn) rfl rfl rfl
    · refine gk_W_s 2 (pc1 := 23) (l1 := [some (.long y0), none]) (st1 := [.int 1]) rfl ?_
      rw [show f_42 y0 = 1 by unfold f_42; rw [if_neg hp1, if_neg hp2]]
      exact gk_W_r (i := .ireturn) rfl rfl rfl⟩
theorem f_42_b (y0 : Int64) : fits .boolean (.int (f_42 y0)) = true := by
  unfold f_42
  repeat' split
  all_goals first | rfl | rfl
/-- GrammarDesk$Growth.isLettered(II)Z -/
def f_49 (x0 : Int32) (x1 : Int32) : Int32 := if (f_28 x0) = 0 then 1 else if (f_36 x1 x0) = 0 then 0 else 1
theorem f_49_E {d : Nat} {w : gk_Wd} (x0 : Int32) (x1 : Int32) : gk_E (d + 1) 49 [.int x0, .int x1] w (.inl (some (.int (f_49 x0 x1)))) w := ⟨Nat.le_of_ble_eq_true rfl, by
  show gk_W none (d + 1) 49 0 [some (.int x0), some (.int x1)] [] w _ w
  refine gk_W_s 1 (pc1 := 1) (l1 := [some (.int x0), some (.int x1)]) (st1 := [.int x0]) rfl ?_
  refine gk_W_c (i := .invokestatic 65) [.int (f_28 x0)] 4 rfl rfl rfl (f_28_E x0) rfl rfl ?_
  refine gk_W_b 1 ((f_28 x0) = 0) (t := 15) (e := 7) (l1 := [some (.int x0), some (.int x1)]) (st1 := []) rfl (fun hp1 => ?_) (fun hp1 => ?_)
  · refine gk_W_s 2 (pc1 := 20) (l1 := [some (.int x0), some (.int x1)]) (st1 := [.int 1]) rfl ?_
    rw [show f_49 x0 x1 = 1 by unfold f_49; rw [if_pos hp1]]
    exact gk_W_r (i := .ireturn) rfl rfl rfl
  · refine gk_W_s 2 (pc1 := 9) (l1 := [some (.int x0), some (.int x1)]) (st1 := [.int x0, .int x1]) rfl ?_
    refine gk_W_c (i := .invokestatic 69) [.int (f_36 x1 x0)] 12 rfl rfl rfl (f_36_E x1 x0) rfl rfl ?_
    refine gk_W_b 1 ((f_36 x1 x0) = 0) (t := 19) (e := 15) (l1 := [some (.int x0), some (.int x1)]) (st1 := []) rfl (fun hp2 => ?_) (fun hp2 => ?_)
    · refine gk_W_s 1 (pc1 := 20) (l1 := [some (.int x0), some (.int x1)]) (st1 := [.int 0]) rfl ?_
      rw [show f_49 x0 x1 = 0 by unfold f_49; rw [if_neg hp1, if_pos hp2]]
      exact gk_W_r (i := .ireturn) rfl rfl rfl
    · refine gk_W_s 2 (pc1 := 20) (l1 := [some (.int x0), some (.int x1)]) (st1 := [.int 1]) rfl ?_
      rw [show f_49 x0 x1 = 1 by unfold f_49; rw [if_neg hp1, if_neg hp2]]
      exact gk_W_r (i := .ireturn) rfl rfl rfl⟩
theorem f_49_b (x0 : Int32) (x1 : Int32) : fits .boolean (.int (f_49 x0 x1)) = true := by
  unfold f_49
  repeat' split
  all_goals first | rfl | rfl
/-- GrammarDesk$Packed.isVariableName(C)Z -/
def f_52 (x0 : Int32) : Int32 := if x0 < 65 then 0 else if 81 ≤ x0 then 0 else 1
theorem f_52_E {d : Nat} {w : gk_Wd} (x0 : Int32) : gk_E (d + 0) 52 [.int x0] w (.inl (some (.int (f_52 x0)))) w := ⟨Nat.le_of_ble_eq_true rfl, by
  show gk_W none (d) 52 0 [some (.int x0)] [] w _ w
  refine gk_W_b 3 (x0 < 65) (t := 16) (e := 6) (l1 := [some (.int x0)]) (st1 := []) rfl (fun hp1 => ?_) (fun hp1 => ?_)
  · refine gk_W_s 1 (pc1 := 17) (l1 := [some (.int x0)]) (st1 := [.int 0]) rfl ?_
    rw [show f_52 x0 = 0 by unfold f_52; rw [if_pos hp1]]
    exact gk_W_r (i := .ireturn) rfl rfl rfl
  · refine gk_W_b 3 (81 ≤ x0) (t := 16) (e := 12) (l1 := [some (.int x0)]) (st1 := []) rfl (fun hp2 => ?_) (fun hp2 => ?_)
    · refine gk_W_s 1 (pc1 := 17) (l1 := [some (.int x0)]) (st1 := [.int 0]) rfl ?_
      rw [show f_52 x0 = 0 by unfold f_52; rw [if_neg hp1, if_pos hp2]]
      exact gk_W_r (i := .ireturn) rfl rfl rfl
    · refine gk_W_s 2 (pc1 := 17) (l1 := [some (.int x0)]) (st1 := [.int 1]) rfl ?_
      rw [show f_52 x0 = 1 by unfold f_52; rw [if_neg hp1, if_neg hp2]]
      exact gk_W_r (i := .ireturn) rfl rfl rfl⟩
theorem f_52_b (x0 : Int32) : fits .boolean (.int (f_52 x0)) = true := by
  unfold f_52
  repeat' split
  all_goals first | rfl | rfl
/-- GrammarDesk$Lookahead.lettersOf(I)I -/
def f_56 (w : gk_Wd) (x1 : Int32) : Int32 := if (f_28 x1) = 0 then 1 <<< ((x1 - 16) &&& 31) else ((w_a w 15).getD x1.toNatClampNeg 0) &&& 63
theorem f_56_E {d : Nat} {rr : List gk_S} {w : gk_Wd} (hS : gk_Sh rr w) (x1 : Int32) (hb2 : ¬ ((f_28 x1) = 0) → gk_out x1 16 = false) : gk_E (d + 1) 56 [.ref 15, .int x1] w (.inl (some (.int (f_56 w x1)))) w := ⟨Nat.le_of_ble_eq_true rfl, by
  show gk_W none (d + 1) 56 0 [some (.ref 15), some (.int x1)] [] w _ w
  refine gk_W_s 1 (pc1 := 1) (l1 := [some (.ref 15), some (.int x1)]) (st1 := [.int x1]) rfl ?_
  refine gk_W_c (i := .invokestatic 70) [.int (f_28 x1)] 4 rfl rfl rfl (f_28_E x1) rfl rfl ?_
  refine gk_W_b 1 ((f_28 x1) = 0) (t := 19) (e := 7) (l1 := [some (.ref 15), some (.int x1)]) (st1 := []) rfl (fun hp1 => ?_) (fun hp1 => ?_)
  · refine gk_W_s 5 (pc1 := 25) (l1 := [some (.ref 15), some (.int x1)]) (st1 := [.int (1 <<< ((x1 - 16) &&& 31))]) rfl ?_
    rw [show f_56 w x1 = 1 <<< ((x1 - 16) &&& 31) by unfold f_56; rw [if_pos hp1]]
    exact gk_W_r (i := .ireturn) rfl rfl rfl
  · refine gk_W_s 1 (pc1 := 8) (l1 := [some (.ref 15), some (.int x1)]) (st1 := [.ref 15]) rfl ?_
    refine gk_W_h (i := .getfield 9) 11 rfl rfl (h_gr (a := 14) (k := 0) (m := 16) hS ly_14 rfl) rfl ?_
    refine gk_W_s 1 (pc1 := 12) (l1 := [some (.ref 15), some (.int x1)]) (st1 := [.int x1, .ref 16]) rfl ?_
    refine gk_W_h (i := .iaload) 13 rfl rfl (h_al (a := 15) (scr := none) hS ly_15 (hb2 hp1)) rfl ?_
    refine gk_W_s 3 (pc1 := 25) (l1 := [some (.ref 15), some (.int x1)]) (st1 := [.int (((w_a w 15).getD x1.toNatClampNeg 0) &&& 63)]) rfl ?_
    rw [show f_56 w x1 = ((w_a w 15).getD x1.toNatClampNeg 0) &&& 63 by unfold f_56; rw [if_neg hp1]]
    exact gk_W_r (i := .ireturn) rfl rfl rfl⟩
/-- GrammarDesk$Lookahead.mayVanish(I)Z -/
def f_57 (w : gk_Wd) (x1 : Int32) : Int32 := if (f_28 x1) = 0 then 0 else if (f_36 (w_i w 14 2) x1) = 0 then 0 else 1
theorem f_57_E {d : Nat} {rr : List gk_S} {w : gk_Wd} (hS : gk_Sh rr w) (x1 : Int32) : gk_E (d + 1) 57 [.ref 15, .int x1] w (.inl (some (.int (f_57 w x1)))) w := ⟨Nat.le_of_ble_eq_true rfl, by
  show gk_W none (d + 1) 57 0 [some (.ref 15), some (.int x1)] [] w _ w
  refine gk_W_s 1 (pc1 := 1) (l1 := [some (.ref 15), some (.int x1)]) (st1 := [.int x1]) rfl ?_
  refine gk_W_c (i := .invokestatic 70) [.int (f_28 x1)] 4 rfl rfl rfl (f_28_E x1) rfl rfl ?_
  refine gk_W_b 1 ((f_28 x1) = 0) (t := 22) (e := 7) (l1 := [some (.ref 15), some (.int x1)]) (st1 := []) rfl (fun hp1 => ?_) (fun hp1 => ?_)
  · refine gk_W_s 1 (pc1 := 23) (l1 := [some (.ref 15), some (.int x1)]) (st1 := [.int 0]) rfl ?_
    rw [show f_57 w x1 = 0 by unfold f_57; rw [if_pos hp1]]
    exact gk_W_r (i := .ireturn) rfl rfl rfl
  · refine gk_W_s 1 (pc1 := 8) (l1 := [some (.ref 15), some (.int x1)]) (st1 := [.ref 15]) rfl ?_
    refine gk_W_h (i := .getfield 18) 11 rfl rfl (h_gi (a := 14) (k := 2) hS ly_14 rfl) rfl ?_
    refine gk_W_s 1 (pc1 := 12) (l1 := [some (.ref 15), some (.int x1)]) (st1 := [.int x1, .int (w_i w 14 2)]) rfl ?_
    refine gk_W_c (i := .invokestatic 27) [.int (f_36 (w_i w 14 2) x1)] 15 rfl rfl rfl (f_36_E (w_i w 14 2) x1) rfl rfl ?_
    refine gk_W_b 1 ((f_36 (w_i w 14 2) x1) = 0) (t := 22) (e := 18) (l1 := [some (.ref 15), some (.int x1)]) (st1 := []) rfl (fun hp2 => ?_) (fun hp2 => ?_)
    · refine gk_W_s 1 (pc1 := 23) (l1 := [some (.ref 15), some (.int x1)]) (st1 := [.int 0]) rfl ?_
      rw [show f_57 w x1 = 0 by unfold f_57; rw [if_neg hp1, if_pos hp2]]
      exact gk_W_r (i := .ireturn) rfl rfl rfl
    · refine gk_W_s 2 (pc1 := 23) (l1 := [some (.ref 15), some (.int x1)]) (st1 := [.int 1]) rfl ?_
      rw [show f_57 w x1 = 1 by unfold f_57; rw [if_neg hp1, if_neg hp2]]
      exact gk_W_r (i := .ireturn) rfl rfl rfl⟩
theorem f_57_b (w : gk_Wd) (x1 : Int32) : fits .boolean (.int (f_57 w x1)) = true := by
  unfold f_57
  repeat' split
  all_goals first | rfl | rfl
/-- GrammarDesk$Lookahead.firstOf(I)I -/
def f_60 (w : gk_Wd) (x1 : Int32) : Int32 := (w_a w 15).getD x1.toNatClampNeg 0
theorem f_60_E {d : Nat} {rr : List gk_S} {w : gk_Wd} (hS : gk_Sh rr w) (x1 : Int32) (hb1 : gk_out x1 16 = false) : gk_E (d + 0) 60 [.ref 15, .int x1] w (.inl (some (.int (f_60 w x1)))) w := ⟨Nat.le_of_ble_eq_true rfl, by
  show gk_W none (d) 60 0 [some (.ref 15), some (.int x1)] [] w _ w
  refine gk_W_s 1 (pc1 := 1) (l1 := [some (.ref 15), some (.int x1)]) (st1 := [.ref 15]) rfl ?_
  refine gk_W_h (i := .getfield 9) 4 rfl rfl (h_gr (a := 14) (k := 0) (m := 16) hS ly_14 rfl) rfl ?_
  refine gk_W_s 1 (pc1 := 5) (l1 := [some (.ref 15), some (.int x1)]) (st1 := [.int x1, .ref 16]) rfl ?_
  refine gk_W_h (i := .iaload) 6 rfl rfl (h_al (a := 15) (scr := none) hS ly_15 hb1) rfl ?_
  exact gk_W_r (i := .ireturn) rfl rfl rfl⟩
/-- GrammarDesk$Lookahead.followOf(I)I -/
def f_62 (w : gk_Wd) (x1 : Int32) : Int32 := (w_a w 16).getD x1.toNatClampNeg 0
theorem f_62_E {d : Nat} {rr : List gk_S} {w : gk_Wd} (hS : gk_Sh rr w) (x1 : Int32) (hb1 : gk_out x1 16 = false) : gk_E (d + 0) 62 [.ref 15, .int x1] w (.inl (some (.int (f_62 w x1)))) w := ⟨Nat.le_of_ble_eq_true rfl, by
  show gk_W none (d) 62 0 [some (.ref 15), some (.int x1)] [] w _ w
  refine gk_W_s 1 (pc1 := 1) (l1 := [some (.ref 15), some (.int x1)]) (st1 := [.ref 15]) rfl ?_
  refine gk_W_h (i := .getfield 15) 4 rfl rfl (h_gr (a := 14) (k := 1) (m := 17) hS ly_14 rfl) rfl ?_
  refine gk_W_s 1 (pc1 := 5) (l1 := [some (.ref 15), some (.int x1)]) (st1 := [.int x1, .ref 17]) rfl ?_
  refine gk_W_h (i := .iaload) 6 rfl rfl (h_al (a := 16) (scr := none) hS ly_16 hb1) rfl ?_
  exact gk_W_r (i := .ireturn) rfl rfl rfl⟩
/-- GrammarDesk$Packed.isLetterName(C)Z -/
def f_67 (x0 : Int32) : Int32 := if x0 < 97 then 0 else if 103 ≤ x0 then 0 else 1
theorem f_67_E {d : Nat} {w : gk_Wd} (x0 : Int32) : gk_E (d + 0) 67 [.int x0] w (.inl (some (.int (f_67 x0)))) w := ⟨Nat.le_of_ble_eq_true rfl, by
  show gk_W none (d) 67 0 [some (.int x0)] [] w _ w
  refine gk_W_b 3 (x0 < 97) (t := 16) (e := 6) (l1 := [some (.int x0)]) (st1 := []) rfl (fun hp1 => ?_) (fun hp1 => ?_)
  · refine gk_W_s 1 (pc1 := 17) (l1 := [some (.int x0)]) (st1 := [.int 0]) rfl ?_
    rw [show f_67 x0 = 0 by unfold f_67; rw [if_pos hp1]]
    exact gk_W_r (i := .ireturn) rfl rfl rfl
  · refine gk_W_b 3 (103 ≤ x0) (t := 16) (e := 12) (l1 := [some (.int x0)]) (st1 := []) rfl (fun hp2 => ?_) (fun hp2 => ?_)
    · refine gk_W_s 1 (pc1 := 17) (l1 := [some (.int x0)]) (st1 := [.int 0]) rfl ?_
      rw [show f_67 x0 = 0 by unfold f_67; rw [if_neg hp1, if_pos hp2]]
      exact gk_W_r (i := .ireturn) rfl rfl rfl
    · refine gk_W_s 2 (pc1 := 17) (l1 := [some (.int x0)]) (st1 := [.int 1]) rfl ?_
      rw [show f_67 x0 = 1 by unfold f_67; rw [if_neg hp1, if_neg hp2]]
      exact gk_W_r (i := .ireturn) rfl rfl rfl⟩
theorem f_67_b (x0 : Int32) : fits .boolean (.int (f_67 x0)) = true := by
  unfold f_67
  repeat' split
  all_goals first | rfl | rfl
/-- GrammarDesk$Packed.letter(C)I -/
def f_68 (x0 : Int32) : Int32 := (16 + x0) - 97
theorem f_68_E {d : Nat} {w : gk_Wd} (x0 : Int32) : gk_E (d + 0) 68 [.int x0] w (.inl (some (.int (f_68 x0)))) w := ⟨Nat.le_of_ble_eq_true rfl, by
  show gk_W none (d) 68 0 [some (.int x0)] [] w _ w
  refine gk_W_s 5 (pc1 := 7) (l1 := [some (.int x0)]) (st1 := [.int ((16 + x0) - 97)]) rfl ?_
  exact gk_W_r (i := .ireturn) rfl rfl rfl⟩
/-- GrammarDesk$Trial.isEnd(I)Z -/
def f_79 (w : gk_Wd) (x1 : Int32) : Int32 := if ((x1 >>> ((w_i w 19 1) &&& 31)) &&& 1) = 0 then 0 else 1
theorem f_79_E {d : Nat} {rr : List gk_S} {w : gk_Wd} (hS : gk_Sh rr w) (x1 : Int32) : gk_E (d + 0) 79 [.ref 20, .int x1] w (.inl (some (.int (f_79 w x1)))) w := ⟨Nat.le_of_ble_eq_true rfl, by
  show gk_W none (d) 79 0 [some (.ref 20), some (.int x1)] [] w _ w
  refine gk_W_s 2 (pc1 := 2) (l1 := [some (.ref 20), some (.int x1)]) (st1 := [.ref 20, .int x1]) rfl ?_
  refine gk_W_h (i := .getfield 17) 5 rfl rfl (h_gi (a := 19) (k := 1) hS ly_19 rfl) rfl ?_
  refine gk_W_b 4 (((x1 >>> ((w_i w 19 1) &&& 31)) &&& 1) = 0) (t := 15) (e := 11) (l1 := [some (.ref 20), some (.int x1)]) (st1 := []) rfl (fun hp1 => ?_) (fun hp1 => ?_)
  · refine gk_W_s 1 (pc1 := 16) (l1 := [some (.ref 20), some (.int x1)]) (st1 := [.int 0]) rfl ?_
    rw [show f_79 w x1 = 0 by unfold f_79; rw [if_pos hp1]]
    exact gk_W_r (i := .ireturn) rfl rfl rfl
  · refine gk_W_s 2 (pc1 := 16) (l1 := [some (.ref 20), some (.int x1)]) (st1 := [.int 1]) rfl ?_
    rw [show f_79 w x1 = 1 by unfold f_79; rw [if_neg hp1]]
    exact gk_W_r (i := .ireturn) rfl rfl rfl⟩
theorem f_79_b (w : gk_Wd) (x1 : Int32) : fits .boolean (.int (f_79 w x1)) = true := by
  unfold f_79
  repeat' split
  all_goals first | rfl | rfl
/-- GrammarDesk$Trial.found()I -/
def f_81 (w : gk_Wd) : Int32 := w_i w 19 6
theorem f_81_E {d : Nat} {rr : List gk_S} {w : gk_Wd} (hS : gk_Sh rr w) : gk_E (d + 0) 81 [.ref 20] w (.inl (some (.int (f_81 w)))) w := ⟨Nat.le_of_ble_eq_true rfl, by
  show gk_W none (d) 81 0 [some (.ref 20)] [] w _ w
  refine gk_W_s 1 (pc1 := 1) (l1 := [some (.ref 20)]) (st1 := [.ref 20]) rfl ?_
  refine gk_W_h (i := .getfield 34) 4 rfl rfl (h_gi (a := 19) (k := 6) hS ly_19 rfl) rfl ?_
  exact gk_W_r (i := .ireturn) rfl rfl rfl⟩
/-- GrammarDesk$Trial.stepAt(I)I -/
def f_82 (w : gk_Wd) (x1 : Int32) : Int32 := (w_a w 24).getD x1.toNatClampNeg 0
theorem f_82_E {d : Nat} {rr : List gk_S} {w : gk_Wd} (hS : gk_Sh rr w) (x1 : Int32) (hb1 : gk_out x1 10 = false) : gk_E (d + 0) 82 [.ref 20, .int x1] w (.inl (some (.int (f_82 w x1)))) w := ⟨Nat.le_of_ble_eq_true rfl, by
  show gk_W none (d) 82 0 [some (.ref 20), some (.int x1)] [] w _ w
  refine gk_W_s 1 (pc1 := 1) (l1 := [some (.ref 20), some (.int x1)]) (st1 := [.ref 20]) rfl ?_
  refine gk_W_h (i := .getfield 31) 4 rfl rfl (h_gr (a := 19) (k := 5) (m := 25) hS ly_19 rfl) rfl ?_
  refine gk_W_s 1 (pc1 := 5) (l1 := [some (.ref 20), some (.int x1)]) (st1 := [.int x1, .ref 25]) rfl ?_
  refine gk_W_h (i := .iaload) 6 rfl rfl (h_al (a := 24) (scr := none) hS ly_24 hb1) rfl ?_
  exact gk_W_r (i := .ireturn) rfl rfl rfl⟩
/-- GrammarDesk$Packed.isTypedVariableName(C)Z -/
def f_87 (x0 : Int32) : Int32 := if x0 < 65 then 0 else if 73 ≤ x0 then 0 else 1
theorem f_87_E {d : Nat} {w : gk_Wd} (x0 : Int32) : gk_E (d + 0) 87 [.int x0] w (.inl (some (.int (f_87 x0)))) w := ⟨Nat.le_of_ble_eq_true rfl, by
  show gk_W none (d) 87 0 [some (.int x0)] [] w _ w
  refine gk_W_b 3 (x0 < 65) (t := 16) (e := 6) (l1 := [some (.int x0)]) (st1 := []) rfl (fun hp1 => ?_) (fun hp1 => ?_)
  · refine gk_W_s 1 (pc1 := 17) (l1 := [some (.int x0)]) (st1 := [.int 0]) rfl ?_
    rw [show f_87 x0 = 0 by unfold f_87; rw [if_pos hp1]]
    exact gk_W_r (i := .ireturn) rfl rfl rfl
  · refine gk_W_b 3 (73 ≤ x0) (t := 16) (e := 12) (l1 := [some (.int x0)]) (st1 := []) rfl (fun hp2 => ?_) (fun hp2 => ?_)
    · refine gk_W_s 1 (pc1 := 17) (l1 := [some (.int x0)]) (st1 := [.int 0]) rfl ?_
      rw [show f_87 x0 = 0 by unfold f_87; rw [if_neg hp1, if_pos hp2]]
      exact gk_W_r (i := .ireturn) rfl rfl rfl
    · refine gk_W_s 2 (pc1 := 17) (l1 := [some (.int x0)]) (st1 := [.int 1]) rfl ?_
      rw [show f_87 x0 = 1 by unfold f_87; rw [if_neg hp1, if_neg hp2]]
      exact gk_W_r (i := .ireturn) rfl rfl rfl⟩
theorem f_87_b (x0 : Int32) : fits .boolean (.int (f_87 x0)) = true := by
  unfold f_87
  repeat' split
  all_goals first | rfl | rfl
/-- GrammarDesk$Packed.emptyRule(I)J -/
def f_90 (x0 : Int32) : Int64 := (x0.toInt64) <<< 54
theorem f_90_E {d : Nat} {w : gk_Wd} (x0 : Int32) : gk_E (d + 0) 90 [.int x0] w (.inl (some (.long (f_90 x0)))) w := ⟨Nat.le_of_ble_eq_true rfl, by
  show gk_W none (d) 90 0 [some (.int x0)] [] w _ w
  refine gk_W_s 4 (pc1 := 5) (l1 := [some (.int x0)]) (st1 := [.long ((x0.toInt64) <<< 54)]) rfl ?_
  exact gk_W_r (i := .lreturn) rfl rfl rfl⟩
/-- GrammarDesk$Packed.append(JI)J -/
def f_91 (y0 : Int64) (x2 : Int32) : Int64 := if (lg_cmp y0 ((-1))) = 0 then (-1) else if (f_24 y0) < 10 then (y0 + 1125899906842624) + ((x2.toInt64) <<< ((50 - (5 * ((f_24 y0) + 1))).toInt64 &&& 63)) else (-1)
theorem f_91_E {d : Nat} {w : gk_Wd} (y0 : Int64) (x2 : Int32) : gk_E (d + 1) 91 [.long y0, .int x2] w (.inl (some (.long (f_91 y0 x2)))) w := ⟨Nat.le_of_ble_eq_true rfl, by
  show gk_W none (d + 1) 91 0 [some (.long y0), none, some (.int x2), none] [] w _ w
  refine gk_W_s 1 (pc1 := 1) (l1 := [some (.long y0), none, some (.int x2), none]) (st1 := [.long y0]) rfl ?_
  refine gk_W_h (i := .ldc2_w 13) 4 rfl rfl rfl rfl ?_
  refine gk_W_b 2 ((lg_cmp y0 ((-1))) = 0) (t := 17) (e := 8) (l1 := [some (.long y0), none, some (.int x2), none]) (st1 := []) rfl (fun hp1 => ?_) (fun hp1 => ?_)
  · refine gk_W_h (i := .ldc2_w 13) 20 rfl rfl rfl rfl ?_
    rw [show f_91 y0 x2 = (-1) by unfold f_91; rw [if_pos hp1]]
    exact gk_W_r (i := .lreturn) rfl rfl rfl
  · refine gk_W_s 1 (pc1 := 9) (l1 := [some (.long y0), none, some (.int x2), none]) (st1 := [.long y0]) rfl ?_
    refine gk_W_c (i := .invokestatic 15) [.int (f_24 y0)] 12 rfl rfl rfl (f_24_E y0) rfl rfl ?_
    refine gk_W_b 2 ((f_24 y0) < 10) (t := 21) (e := 17) (l1 := [some (.long y0), none, some (.int x2), none]) (st1 := []) rfl (fun hp2 => ?_) (fun hp2 => ?_)
    · refine gk_W_s 3 (pc1 := 25) (l1 := [some (.long y0), none, some (.int x2), none]) (st1 := [.long y0, .int 5, .int 50]) rfl ?_
      refine gk_W_c (i := .invokestatic 15) [.int (f_24 y0), .int 5, .int 50] 28 rfl rfl rfl (f_24_E y0) rfl rfl ?_
      refine gk_W_s 6 (pc1 := 34) (l1 := [some (.long y0), none, some (.int x2), some (.int (50 - (5 * ((f_24 y0) + 1))))]) (st1 := [.long y0]) rfl ?_
      refine gk_W_h (i := .ldc2_w 19) 37 rfl rfl rfl rfl ?_
      refine gk_W_s 6 (pc1 := 43) (l1 := [some (.long y0), none, some (.int x2), some (.int (50 - (5 * ((f_24 y0) + 1))))]) (st1 := [.long ((y0 + 1125899906842624) + ((x2.toInt64) <<< ((50 - (5 * ((f_24 y0) + 1))).toInt64 &&& 63)))]) rfl ?_
      rw [show f_91 y0 x2 = (y0 + 1125899906842624) + ((x2.toInt64) <<< ((50 - (5 * ((f_24 y0) + 1))).toInt64 &&& 63)) by unfold f_91; rw [if_neg hp1, if_pos hp2]]
      exact gk_W_r (i := .lreturn) rfl rfl rfl
    · refine gk_W_h (i := .ldc2_w 13) 20 rfl rfl rfl rfl ?_
      rw [show f_91 y0 x2 = (-1) by unfold f_91; rw [if_neg hp1, if_neg hp2]]
      exact gk_W_r (i := .lreturn) rfl rfl rfl⟩
/-- GrammarDesk$Packed.withLeft(JI)J -/
def f_105 (y0 : Int64) (x2 : Int32) : Int64 := (y0 - (f_90 (f_25 y0))) + (f_90 x2)
theorem f_105_E {d : Nat} {w : gk_Wd} (y0 : Int64) (x2 : Int32) : gk_E (d + 1) 105 [.long y0, .int x2] w (.inl (some (.long (f_105 y0 x2)))) w := ⟨Nat.le_of_ble_eq_true rfl, by
  show gk_W none (d + 1) 105 0 [some (.long y0), none, some (.int x2)] [] w _ w
  refine gk_W_s 2 (pc1 := 2) (l1 := [some (.long y0), none, some (.int x2)]) (st1 := [.long y0, .long y0]) rfl ?_
  refine gk_W_c (i := .invokestatic 29) [.int (f_25 y0), .long y0] 5 rfl rfl rfl (f_25_E y0) rfl rfl ?_
  refine gk_W_c (i := .invokestatic 32) [.long (f_90 (f_25 y0)), .long y0] 8 rfl rfl rfl (f_90_E (f_25 y0)) rfl rfl ?_
  refine gk_W_s 2 (pc1 := 10) (l1 := [some (.long y0), none, some (.int x2)]) (st1 := [.int x2, .long (y0 - (f_90 (f_25 y0)))]) rfl ?_
  refine gk_W_c (i := .invokestatic 32) [.long (f_90 x2), .long (y0 - (f_90 (f_25 y0)))] 13 rfl rfl rfl (f_90_E x2) rfl rfl ?_
  refine gk_W_s 1 (pc1 := 14) (l1 := [some (.long y0), none, some (.int x2)]) (st1 := [.long ((y0 - (f_90 (f_25 y0))) + (f_90 x2))]) rfl ?_
  exact gk_W_r (i := .lreturn) rfl rfl rfl⟩
/-- GrammarDesk$GreibachMaker.leadsWithItself(J)Z -/
def f_116 (y0 : Int64) : Int32 := if (f_24 y0) ≤ 0 then 0 else if ¬ (f_26 y0 1) = (f_25 y0) then 0 else 1
theorem f_116_E {d : Nat} {w : gk_Wd} (y0 : Int64) : gk_E (d + 1) 116 [.long y0] w (.inl (some (.int (f_116 y0)))) w := ⟨Nat.le_of_ble_eq_true rfl, by
  show gk_W none (d + 1) 116 0 [some (.long y0), none] [] w _ w
  refine gk_W_s 1 (pc1 := 1) (l1 := [some (.long y0), none]) (st1 := [.long y0]) rfl ?_
  refine gk_W_c (i := .invokestatic 80) [.int (f_24 y0)] 4 rfl rfl rfl (f_24_E y0) rfl rfl ?_
  refine gk_W_b 1 ((f_24 y0) ≤ 0) (t := 23) (e := 7) (l1 := [some (.long y0), none]) (st1 := []) rfl (fun hp1 => ?_) (fun hp1 => ?_)
  · refine gk_W_s 1 (pc1 := 24) (l1 := [some (.long y0), none]) (st1 := [.int 0]) rfl ?_
    rw [show f_116 y0 = 0 by unfold f_116; rw [if_pos hp1]]
    exact gk_W_r (i := .ireturn) rfl rfl rfl
  · refine gk_W_s 2 (pc1 := 9) (l1 := [some (.long y0), none]) (st1 := [.int 1, .long y0]) rfl ?_
    refine gk_W_c (i := .invokestatic 83) [.int (f_26 y0 1)] 12 rfl rfl rfl (f_26_E y0 1) rfl rfl ?_
    refine gk_W_s 1 (pc1 := 13) (l1 := [some (.long y0), none]) (st1 := [.long y0, .int (f_26 y0 1)]) rfl ?_
    refine gk_W_c (i := .invokestatic 76) [.int (f_25 y0), .int (f_26 y0 1)] 16 rfl rfl rfl (f_25_E y0) rfl rfl ?_
    refine gk_W_b 1 (¬ (f_26 y0 1) = (f_25 y0)) (t := 23) (e := 19) (l1 := [some (.long y0), none]) (st1 := []) rfl (fun hp2 => ?_) (fun hp2 => ?_)
    · refine gk_W_s 1 (pc1 := 24) (l1 := [some (.long y0), none]) (st1 := [.int 0]) rfl ?_
      rw [show f_116 y0 = 0 by unfold f_116; rw [if_neg hp1, if_pos hp2]]
      exact gk_W_r (i := .ireturn) rfl rfl rfl
    · refine gk_W_s 2 (pc1 := 24) (l1 := [some (.long y0), none]) (st1 := [.int 1]) rfl ?_
      rw [show f_116 y0 = 1 by unfold f_116; rw [if_neg hp1, if_neg hp2]]
      exact gk_W_r (i := .ireturn) rfl rfl rfl⟩
theorem f_116_b (y0 : Int64) : fits .boolean (.int (f_116 y0)) = true := by
  unfold f_116
  repeat' split
  all_goals first | rfl | rfl
/-- GrammarDesk$Trial.cellOf(III)I -/
def f_131 (x0 : Int32) (x1 : Int32) (x2 : Int32) : Int32 := (((x0 * 11) + x1) * 11) + x2
theorem f_131_E {d : Nat} {w : gk_Wd} (x0 : Int32) (x1 : Int32) (x2 : Int32) : gk_E (d + 0) 131 [.int x0, .int x1, .int x2] w (.inl (some (.int (f_131 x0 x1 x2)))) w := ⟨Nat.le_of_ble_eq_true rfl, by
  show gk_W none (d) 131 0 [some (.int x0), some (.int x1), some (.int x2)] [] w _ w
  refine gk_W_s 9 (pc1 := 11) (l1 := [some (.int x0), some (.int x1), some (.int x2)]) (st1 := [.int ((((x0 * 11) + x1) * 11) + x2)]) rfl ?_
  exact gk_W_r (i := .ireturn) rfl rfl rfl⟩
/-- GrammarDesk$Trial.waysOfSymbol(III)I -/
def f_134 (w : gk_Wd) (x1 : Int32) (x2 : Int32) (x3 : Int32) : Int32 := if (f_28 x1) = 0 then if ¬ x3 = (x2 + 1) then 0 else if ¬ ((w_a w 20).getD x2.toNatClampNeg 0) = x1 then 0 else 1 else (w_a w 22).getD (f_131 x1 x2 x3).toNatClampNeg 0
theorem f_134_E {d : Nat} {rr : List gk_S} {w : gk_Wd} (hS : gk_Sh rr w) (x1 : Int32) (x2 : Int32) (x3 : Int32) (hb3 : ((f_28 x1) = 0) → ¬ (¬ x3 = (x2 + 1)) → gk_out x2 10 = false) (hb5 : ¬ ((f_28 x1) = 0) → gk_out (f_131 x1 x2 x3) 1936 = false) : gk_E (d + 1) 134 [.ref 20, .int x1, .int x2, .int x3] w (.inl (some (.int (f_134 w x1 x2 x3)))) w := ⟨Nat.le_of_ble_eq_true rfl, by
  show gk_W none (d + 1) 134 0 [some (.ref 20), some (.int x1), some (.int x2), some (.int x3)] [] w _ w
  refine gk_W_s 1 (pc1 := 1) (l1 := [some (.ref 20), some (.int x1), some (.int x2), some (.int x3)]) (st1 := [.int x1]) rfl ?_
  refine gk_W_c (i := .invokestatic 82) [.int (f_28 x1)] 4 rfl rfl rfl (f_28_E x1) rfl rfl ?_
  refine gk_W_b 1 ((f_28 x1) = 0) (t := 19) (e := 7) (l1 := [some (.ref 20), some (.int x1), some (.int x2), some (.int x3)]) (st1 := []) rfl (fun hp1 => ?_) (fun hp1 => ?_)
  · refine gk_W_b 5 (¬ x3 = (x2 + 1)) (t := 40) (e := 26) (l1 := [some (.ref 20), some (.int x1), some (.int x2), some (.int x3)]) (st1 := []) rfl (fun hp2 => ?_) (fun hp2 => ?_)
    · refine gk_W_s 1 (pc1 := 41) (l1 := [some (.ref 20), some (.int x1), some (.int x2), some (.int x3)]) (st1 := [.int 0]) rfl ?_
      rw [show f_134 w x1 x2 x3 = 0 by unfold f_134; rw [if_pos hp1, if_pos hp2]]
      exact gk_W_r (i := .ireturn) rfl rfl rfl
    · refine gk_W_s 1 (pc1 := 27) (l1 := [some (.ref 20), some (.int x1), some (.int x2), some (.int x3)]) (st1 := [.ref 20]) rfl ?_
      refine gk_W_h (i := .getfield 13) 30 rfl rfl (h_gr (a := 19) (k := 0) (m := 21) hS ly_19 rfl) rfl ?_
      refine gk_W_s 1 (pc1 := 31) (l1 := [some (.ref 20), some (.int x1), some (.int x2), some (.int x3)]) (st1 := [.int x2, .ref 21]) rfl ?_
      refine gk_W_h (i := .iaload) 32 rfl rfl (h_al (a := 20) (scr := none) hS ly_20 (hb3 hp1 hp2)) rfl ?_
      refine gk_W_b 2 (¬ ((w_a w 20).getD x2.toNatClampNeg 0) = x1) (t := 40) (e := 36) (l1 := [some (.ref 20), some (.int x1), some (.int x2), some (.int x3)]) (st1 := []) rfl (fun hp4 => ?_) (fun hp4 => ?_)
      · refine gk_W_s 1 (pc1 := 41) (l1 := [some (.ref 20), some (.int x1), some (.int x2), some (.int x3)]) (st1 := [.int 0]) rfl ?_
        rw [show f_134 w x1 x2 x3 = 0 by unfold f_134; rw [if_pos hp1, if_neg hp2, if_pos hp4]]
        exact gk_W_r (i := .ireturn) rfl rfl rfl
      · refine gk_W_s 2 (pc1 := 41) (l1 := [some (.ref 20), some (.int x1), some (.int x2), some (.int x3)]) (st1 := [.int 1]) rfl ?_
        rw [show f_134 w x1 x2 x3 = 1 by unfold f_134; rw [if_pos hp1, if_neg hp2, if_neg hp4]]
        exact gk_W_r (i := .ireturn) rfl rfl rfl
  · refine gk_W_s 1 (pc1 := 8) (l1 := [some (.ref 20), some (.int x1), some (.int x2), some (.int x3)]) (st1 := [.ref 20]) rfl ?_
    refine gk_W_h (i := .getfield 24) 11 rfl rfl (h_gr (a := 19) (k := 3) (m := 23) hS ly_19 rfl) rfl ?_
    refine gk_W_s 3 (pc1 := 14) (l1 := [some (.ref 20), some (.int x1), some (.int x2), some (.int x3)]) (st1 := [.int x3, .int x2, .int x1, .ref 23]) rfl ?_
    refine gk_W_c (i := .invokestatic 95) [.int (f_131 x1 x2 x3), .ref 23] 17 rfl rfl rfl (f_131_E x1 x2 x3) rfl rfl ?_
    refine gk_W_h (i := .iaload) 18 rfl rfl (h_al (a := 22) (scr := none) hS ly_22 (hb5 hp1)) rfl ?_
    rw [show f_134 w x1 x2 x3 = (w_a w 22).getD (f_131 x1 x2 x3).toNatClampNeg 0 by unfold f_134; rw [if_neg hp1]]
    exact gk_W_r (i := .ireturn) rfl rfl rfl⟩
/-- GrammarDeskModel.thrown()I -/
def f_141 (w : gk_Wd) : Int32 := w_i w 26 0
theorem f_141_E {d : Nat} {rr : List gk_S} {w : gk_Wd} (hS : gk_Sh rr w) : gk_E (d + 0) 141 [.ref 27] w (.inl (some (.int (f_141 w)))) w := ⟨Nat.le_of_ble_eq_true rfl, by
  show gk_W none (d) 141 0 [some (.ref 27)] [] w _ w
  refine gk_W_s 1 (pc1 := 1) (l1 := [some (.ref 27)]) (st1 := [.ref 27]) rfl ?_
  refine gk_W_h (i := .getfield 97) 4 rfl rfl (h_gi (a := 26) (k := 0) hS ly_26 rfl) rfl ?_
  exact gk_W_r (i := .ireturn) rfl rfl rfl⟩
/-- GrammarDeskModel.symbolOf(CC)I -/
def f_145 (x0 : Int32) (x1 : Int32) : Int32 := if x0 < 65 then if x0 < 97 then (-1) else if 102 < x0 then (-1) else (16 + x0) - 97 else if x1 < x0 then if x0 < 97 then (-1) else if 102 < x0 then (-1) else (16 + x0) - 97 else x0 - 65
theorem f_145_E {d : Nat} {w : gk_Wd} (x0 : Int32) (x1 : Int32) : gk_E (d + 0) 145 [.int x0, .int x1] w (.inl (some (.int (f_145 x0 x1)))) w := ⟨Nat.le_of_ble_eq_true rfl, by
  show gk_W none (d) 145 0 [some (.int x0), some (.int x1)] [] w _ w
  refine gk_W_b 3 (x0 < 65) (t := 18) (e := 6) (l1 := [some (.int x0), some (.int x1)]) (st1 := []) rfl (fun hp1 => ?_) (fun hp1 => ?_)
  · refine gk_W_b 3 (x0 < 97) (t := 40) (e := 24) (l1 := [some (.int x0), some (.int x1)]) (st1 := []) rfl (fun hp2 => ?_) (fun hp2 => ?_)
    · refine gk_W_s 1 (pc1 := 41) (l1 := [some (.int x0), some (.int x1)]) (st1 := [.int ((-1))]) rfl ?_
      rw [show f_145 x0 x1 = (-1) by unfold f_145; rw [if_pos hp1, if_pos hp2]]
      exact gk_W_r (i := .ireturn) rfl rfl rfl
    · refine gk_W_b 3 (102 < x0) (t := 40) (e := 30) (l1 := [some (.int x0), some (.int x1)]) (st1 := []) rfl (fun hp3 => ?_) (fun hp3 => ?_)
      · refine gk_W_s 1 (pc1 := 41) (l1 := [some (.int x0), some (.int x1)]) (st1 := [.int ((-1))]) rfl ?_
        rw [show f_145 x0 x1 = (-1) by unfold f_145; rw [if_pos hp1, if_neg hp2, if_pos hp3]]
        exact gk_W_r (i := .ireturn) rfl rfl rfl
      · refine gk_W_s 6 (pc1 := 41) (l1 := [some (.int x0), some (.int x1)]) (st1 := [.int ((16 + x0) - 97)]) rfl ?_
        rw [show f_145 x0 x1 = (16 + x0) - 97 by unfold f_145; rw [if_pos hp1, if_neg hp2, if_neg hp3]]
        exact gk_W_r (i := .ireturn) rfl rfl rfl
  · refine gk_W_b 3 (x1 < x0) (t := 18) (e := 11) (l1 := [some (.int x0), some (.int x1)]) (st1 := []) rfl (fun hp4 => ?_) (fun hp4 => ?_)
    · refine gk_W_b 3 (x0 < 97) (t := 40) (e := 24) (l1 := [some (.int x0), some (.int x1)]) (st1 := []) rfl (fun hp5 => ?_) (fun hp5 => ?_)
      · refine gk_W_s 1 (pc1 := 41) (l1 := [some (.int x0), some (.int x1)]) (st1 := [.int ((-1))]) rfl ?_
        rw [show f_145 x0 x1 = (-1) by unfold f_145; rw [if_neg hp1, if_pos hp4, if_pos hp5]]
        exact gk_W_r (i := .ireturn) rfl rfl rfl
      · refine gk_W_b 3 (102 < x0) (t := 40) (e := 30) (l1 := [some (.int x0), some (.int x1)]) (st1 := []) rfl (fun hp6 => ?_) (fun hp6 => ?_)
        · refine gk_W_s 1 (pc1 := 41) (l1 := [some (.int x0), some (.int x1)]) (st1 := [.int ((-1))]) rfl ?_
          rw [show f_145 x0 x1 = (-1) by unfold f_145; rw [if_neg hp1, if_pos hp4, if_neg hp5, if_pos hp6]]
          exact gk_W_r (i := .ireturn) rfl rfl rfl
        · refine gk_W_s 6 (pc1 := 41) (l1 := [some (.int x0), some (.int x1)]) (st1 := [.int ((16 + x0) - 97)]) rfl ?_
          rw [show f_145 x0 x1 = (16 + x0) - 97 by unfold f_145; rw [if_neg hp1, if_pos hp4, if_neg hp5, if_neg hp6]]
          exact gk_W_r (i := .ireturn) rfl rfl rfl
    · refine gk_W_s 4 (pc1 := 41) (l1 := [some (.int x0), some (.int x1)]) (st1 := [.int (x0 - 65)]) rfl ?_
      rw [show f_145 x0 x1 = x0 - 65 by unfold f_145; rw [if_neg hp1, if_neg hp4]]
      exact gk_W_r (i := .ireturn) rfl rfl rfl⟩
/-- GrammarDeskModel.at(II)I -/
def f_151 (w : gk_Wd) (x1 : Int32) (x2 : Int32) : Int32 := (w_a w 30).getD ((10 * x1) + x2).toNatClampNeg 0
theorem f_151_E {d : Nat} {rr : List gk_S} {w : gk_Wd} (hS : gk_Sh rr w) (x1 : Int32) (x2 : Int32) (hb1 : gk_out ((10 * x1) + x2) 640 = false) : gk_E (d + 0) 151 [.ref 27, .int x1, .int x2] w (.inl (some (.int (f_151 w x1 x2)))) w := ⟨Nat.le_of_ble_eq_true rfl, by
  show gk_W none (d) 151 0 [some (.ref 27), some (.int x1), some (.int x2)] [] w _ w
  refine gk_W_s 1 (pc1 := 1) (l1 := [some (.ref 27), some (.int x1), some (.int x2)]) (st1 := [.ref 27]) rfl ?_
  refine gk_W_h (i := .getfield 24) 4 rfl rfl (h_gr (a := 26) (k := 7) (m := 31) hS ly_26 rfl) rfl ?_
  refine gk_W_s 5 (pc1 := 10) (l1 := [some (.ref 27), some (.int x1), some (.int x2)]) (st1 := [.int ((10 * x1) + x2), .ref 31]) rfl ?_
  refine gk_W_h (i := .iaload) 11 rfl rfl (h_al (a := 30) (scr := none) hS ly_30 hb1) rfl ?_
  exact gk_W_r (i := .ireturn) rfl rfl rfl⟩
/-- GrammarDeskModel.characterOf(I)C -/
def f_159 (x0 : Int32) : Int32 := if 16 ≤ x0 then (((97 + x0) - 16).toUInt32 % 65536).toInt32 else ((65 + x0).toUInt32 % 65536).toInt32
theorem f_159_E {d : Nat} {w : gk_Wd} (x0 : Int32) : gk_E (d + 0) 159 [.int x0] w (.inl (some (.int (f_159 x0)))) w := ⟨Nat.le_of_ble_eq_true rfl, by
  show gk_W none (d) 159 0 [some (.int x0)] [] w _ w
  refine gk_W_b 3 (16 ≤ x0) (t := 13) (e := 6) (l1 := [some (.int x0)]) (st1 := []) rfl (fun hp1 => ?_) (fun hp1 => ?_)
  · refine gk_W_s 6 (pc1 := 21) (l1 := [some (.int x0)]) (st1 := [.int ((((97 + x0) - 16).toUInt32 % 65536).toInt32)]) rfl ?_
    rw [show f_159 x0 = (((97 + x0) - 16).toUInt32 % 65536).toInt32 by unfold f_159; rw [if_pos hp1]]
    exact gk_W_r (i := .ireturn) rfl rfl (gk_ret_f (gk_fit_c _))
  · refine gk_W_s 5 (pc1 := 21) (l1 := [some (.int x0)]) (st1 := [.int (((65 + x0).toUInt32 % 65536).toInt32)]) rfl ?_
    rw [show f_159 x0 = ((65 + x0).toUInt32 % 65536).toInt32 by unfold f_159; rw [if_neg hp1]]
    exact gk_W_r (i := .ireturn) rfl rfl (gk_ret_f (gk_fit_c _))⟩
/-- GrammarDeskModel.isVariable(I)Z -/
def f_163 (x0 : Int32) : Int32 := if 16 ≤ x0 then 0 else 1
theorem f_163_E {d : Nat} {w : gk_Wd} (x0 : Int32) : gk_E (d + 0) 163 [.int x0] w (.inl (some (.int (f_163 x0)))) w := ⟨Nat.le_of_ble_eq_true rfl, by
  show gk_W none (d) 163 0 [some (.int x0)] [] w _ w
  refine gk_W_b 3 (16 ≤ x0) (t := 10) (e := 6) (l1 := [some (.int x0)]) (st1 := []) rfl (fun hp1 => ?_) (fun hp1 => ?_)
  · refine gk_W_s 1 (pc1 := 11) (l1 := [some (.int x0)]) (st1 := [.int 0]) rfl ?_
    rw [show f_163 x0 = 0 by unfold f_163; rw [if_pos hp1]]
    exact gk_W_r (i := .ireturn) rfl rfl rfl
  · refine gk_W_s 2 (pc1 := 11) (l1 := [some (.int x0)]) (st1 := [.int 1]) rfl ?_
    rw [show f_163 x0 = 1 by unfold f_163; rw [if_neg hp1]]
    exact gk_W_r (i := .ireturn) rfl rfl rfl⟩
theorem f_163_b (x0 : Int32) : fits .boolean (.int (f_163 x0)) = true := by
  unfold f_163
  repeat' split
  all_goals first | rfl | rfl
/-- GrammarDeskModel.isUnit(I)Z -/
def f_179 (w : gk_Wd) (x1 : Int32) : Int32 := if ¬ ((w_a w 29).getD x1.toNatClampNeg 0) = 1 then 0 else if (f_163 (f_151 w x1 0)) = 0 then 0 else 1
theorem f_179_E {d : Nat} {rr : List gk_S} {w : gk_Wd} (hS : gk_Sh rr w) (x1 : Int32) (hb1 : gk_out x1 64 = false) (hb3 : ¬ (¬ ((w_a w 29).getD x1.toNatClampNeg 0) = 1) → (gk_out ((10 * x1) + 0) 640 = false)) : gk_E (d + 1) 179 [.ref 27, .int x1] w (.inl (some (.int (f_179 w x1)))) w := ⟨Nat.le_of_ble_eq_true rfl, by
  show gk_W none (d + 1) 179 0 [some (.ref 27), some (.int x1)] [] w _ w
  refine gk_W_s 1 (pc1 := 1) (l1 := [some (.ref 27), some (.int x1)]) (st1 := [.ref 27]) rfl ?_
  refine gk_W_h (i := .getfield 21) 4 rfl rfl (h_gr (a := 26) (k := 6) (m := 30) hS ly_26 rfl) rfl ?_
  refine gk_W_s 1 (pc1 := 5) (l1 := [some (.ref 27), some (.int x1)]) (st1 := [.int x1, .ref 30]) rfl ?_
  refine gk_W_h (i := .iaload) 6 rfl rfl (h_al (a := 29) (scr := none) hS ly_29 hb1) rfl ?_
  refine gk_W_b 2 (¬ ((w_a w 29).getD x1.toNatClampNeg 0) = 1) (t := 26) (e := 10) (l1 := [some (.ref 27), some (.int x1)]) (st1 := []) rfl (fun hp2 => ?_) (fun hp2 => ?_)
  · refine gk_W_s 1 (pc1 := 27) (l1 := [some (.ref 27), some (.int x1)]) (st1 := [.int 0]) rfl ?_
    rw [show f_179 w x1 = 0 by unfold f_179; rw [if_pos hp2]]
    exact gk_W_r (i := .ireturn) rfl rfl rfl
  · refine gk_W_s 3 (pc1 := 13) (l1 := [some (.ref 27), some (.int x1)]) (st1 := [.int 0, .int x1, .ref 27]) rfl ?_
    refine gk_W_c (i := .invokevirtual 103) [.int (f_151 w x1 0)] 16 rfl rfl (c_v (a := 26) hS ly_26 rfl rfl (Nat.le_of_ble_eq_true rfl)) (f_151_E hS x1 0 (hb3 hp2)) rfl rfl ?_
    refine gk_W_c (i := .invokestatic 166) [.int (f_163 (f_151 w x1 0))] 19 rfl rfl rfl (f_163_E (f_151 w x1 0)) rfl rfl ?_
    refine gk_W_b 1 ((f_163 (f_151 w x1 0)) = 0) (t := 26) (e := 22) (l1 := [some (.ref 27), some (.int x1)]) (st1 := []) rfl (fun hp4 => ?_) (fun hp4 => ?_)
    · refine gk_W_s 1 (pc1 := 27) (l1 := [some (.ref 27), some (.int x1)]) (st1 := [.int 0]) rfl ?_
      rw [show f_179 w x1 = 0 by unfold f_179; rw [if_neg hp2, if_pos hp4]]
      exact gk_W_r (i := .ireturn) rfl rfl rfl
    · refine gk_W_s 2 (pc1 := 27) (l1 := [some (.ref 27), some (.int x1)]) (st1 := [.int 1]) rfl ?_
      rw [show f_179 w x1 = 1 by unfold f_179; rw [if_neg hp2, if_neg hp4]]
      exact gk_W_r (i := .ireturn) rfl rfl rfl⟩
theorem f_179_b (w : gk_Wd) (x1 : Int32) : fits .boolean (.int (f_179 w x1)) = true := by
  unfold f_179
  repeat' split
  all_goals first | rfl | rfl
/-- GrammarDeskModel.beginsWith(II)Z -/
def f_185 (w : gk_Wd) (x1 : Int32) (x2 : Int32) : Int32 := if ((w_a w 29).getD x1.toNatClampNeg 0) ≤ 0 then 0 else if ¬ (f_151 w x1 0) = x2 then 0 else 1
theorem f_185_E {d : Nat} {rr : List gk_S} {w : gk_Wd} (hS : gk_Sh rr w) (x1 : Int32) (x2 : Int32) (hb1 : gk_out x1 64 = false) (hb3 : ¬ (((w_a w 29).getD x1.toNatClampNeg 0) ≤ 0) → (gk_out ((10 * x1) + 0) 640 = false)) : gk_E (d + 1) 185 [.ref 27, .int x1, .int x2] w (.inl (some (.int (f_185 w x1 x2)))) w := ⟨Nat.le_of_ble_eq_true rfl, by
  show gk_W none (d + 1) 185 0 [some (.ref 27), some (.int x1), some (.int x2)] [] w _ w
  refine gk_W_s 1 (pc1 := 1) (l1 := [some (.ref 27), some (.int x1), some (.int x2)]) (st1 := [.ref 27]) rfl ?_
  refine gk_W_h (i := .getfield 21) 4 rfl rfl (h_gr (a := 26) (k := 6) (m := 30) hS ly_26 rfl) rfl ?_
  refine gk_W_s 1 (pc1 := 5) (l1 := [some (.ref 27), some (.int x1), some (.int x2)]) (st1 := [.int x1, .ref 30]) rfl ?_
  refine gk_W_h (i := .iaload) 6 rfl rfl (h_al (a := 29) (scr := none) hS ly_29 hb1) rfl ?_
  refine gk_W_b 1 (((w_a w 29).getD x1.toNatClampNeg 0) ≤ 0) (t := 23) (e := 9) (l1 := [some (.ref 27), some (.int x1), some (.int x2)]) (st1 := []) rfl (fun hp2 => ?_) (fun hp2 => ?_)
  · refine gk_W_s 1 (pc1 := 24) (l1 := [some (.ref 27), some (.int x1), some (.int x2)]) (st1 := [.int 0]) rfl ?_
    rw [show f_185 w x1 x2 = 0 by unfold f_185; rw [if_pos hp2]]
    exact gk_W_r (i := .ireturn) rfl rfl rfl
  · refine gk_W_s 3 (pc1 := 12) (l1 := [some (.ref 27), some (.int x1), some (.int x2)]) (st1 := [.int 0, .int x1, .ref 27]) rfl ?_
    refine gk_W_c (i := .invokevirtual 103) [.int (f_151 w x1 0)] 15 rfl rfl (c_v (a := 26) hS ly_26 rfl rfl (Nat.le_of_ble_eq_true rfl)) (f_151_E hS x1 0 (hb3 hp2)) rfl rfl ?_
    refine gk_W_b 2 (¬ (f_151 w x1 0) = x2) (t := 23) (e := 19) (l1 := [some (.ref 27), some (.int x1), some (.int x2)]) (st1 := []) rfl (fun hp4 => ?_) (fun hp4 => ?_)
    · refine gk_W_s 1 (pc1 := 24) (l1 := [some (.ref 27), some (.int x1), some (.int x2)]) (st1 := [.int 0]) rfl ?_
      rw [show f_185 w x1 x2 = 0 by unfold f_185; rw [if_neg hp2, if_pos hp4]]
      exact gk_W_r (i := .ireturn) rfl rfl rfl
    · refine gk_W_s 2 (pc1 := 24) (l1 := [some (.ref 27), some (.int x1), some (.int x2)]) (st1 := [.int 1]) rfl ?_
      rw [show f_185 w x1 x2 = 1 by unfold f_185; rw [if_neg hp2, if_neg hp4]]
      exact gk_W_r (i := .ireturn) rfl rfl rfl⟩
theorem f_185_b (w : gk_Wd) (x1 : Int32) (x2 : Int32) : fits .boolean (.int (f_185 w x1 x2)) = true := by
  unfold f_185
  repeat' split
  all_goals first | rfl | rfl
/-- GrammarDeskModel.firstOf(I)I -/
def f_198 (w : gk_Wd) (x1 : Int32) : Int32 := if (f_163 x1) = 0 then 1 <<< ((x1 - 16) &&& 31) else (w_a w 41).getD x1.toNatClampNeg 0
theorem f_198_E {d : Nat} {rr : List gk_S} {w : gk_Wd} (hS : gk_Sh rr w) (x1 : Int32) (hb2 : ¬ ((f_163 x1) = 0) → gk_out x1 16 = false) : gk_E (d + 1) 198 [.ref 27, .int x1] w (.inl (some (.int (f_198 w x1)))) w := ⟨Nat.le_of_ble_eq_true rfl, by
  show gk_W none (d + 1) 198 0 [some (.ref 27), some (.int x1)] [] w _ w
  refine gk_W_s 1 (pc1 := 1) (l1 := [some (.ref 27), some (.int x1)]) (st1 := [.int x1]) rfl ?_
  refine gk_W_c (i := .invokestatic 166) [.int (f_163 x1)] 4 rfl rfl rfl (f_163_E x1) rfl rfl ?_
  refine gk_W_b 1 ((f_163 x1) = 0) (t := 16) (e := 7) (l1 := [some (.ref 27), some (.int x1)]) (st1 := []) rfl (fun hp1 => ?_) (fun hp1 => ?_)
  · refine gk_W_s 5 (pc1 := 22) (l1 := [some (.ref 27), some (.int x1)]) (st1 := [.int (1 <<< ((x1 - 16) &&& 31))]) rfl ?_
    rw [show f_198 w x1 = 1 <<< ((x1 - 16) &&& 31) by unfold f_198; rw [if_pos hp1]]
    exact gk_W_r (i := .ireturn) rfl rfl rfl
  · refine gk_W_s 1 (pc1 := 8) (l1 := [some (.ref 27), some (.int x1)]) (st1 := [.ref 27]) rfl ?_
    refine gk_W_h (i := .getfield 58) 11 rfl rfl (h_gr (a := 26) (k := 22) (m := 42) hS ly_26 rfl) rfl ?_
    refine gk_W_s 1 (pc1 := 12) (l1 := [some (.ref 27), some (.int x1)]) (st1 := [.int x1, .ref 42]) rfl ?_
    refine gk_W_h (i := .iaload) 13 rfl rfl (h_al (a := 41) (scr := none) hS ly_41 (hb2 hp1)) rfl ?_
    refine gk_W_s 1 (pc1 := 22) (l1 := [some (.ref 27), some (.int x1)]) (st1 := [.int ((w_a w 41).getD x1.toNatClampNeg 0)]) rfl ?_
    rw [show f_198 w x1 = (w_a w 41).getD x1.toNatClampNeg 0 by unfold f_198; rw [if_neg hp1]]
    exact gk_W_r (i := .ireturn) rfl rfl rfl⟩
/-- GrammarDeskModel.waysOf(III)I -/
def f_210 (w : gk_Wd) (x1 : Int32) (x2 : Int32) (x3 : Int32) : Int32 := if (f_163 x1) = 0 then if ¬ x3 = (x2 + 1) then 0 else if ¬ ((w_a w 43).getD x2.toNatClampNeg 0) = x1 then 0 else 1 else (w_a w 45).getD (((121 * x1) + (11 * x2)) + x3).toNatClampNeg 0
theorem f_210_E {d : Nat} {rr : List gk_S} {w : gk_Wd} (hS : gk_Sh rr w) (x1 : Int32) (x2 : Int32) (x3 : Int32) (hb3 : ((f_163 x1) = 0) → ¬ (¬ x3 = (x2 + 1)) → gk_out x2 10 = false) (hb5 : ¬ ((f_163 x1) = 0) → gk_out (((121 * x1) + (11 * x2)) + x3) 1936 = false) : gk_E (d + 1) 210 [.ref 27, .int x1, .int x2, .int x3] w (.inl (some (.int (f_210 w x1 x2 x3)))) w := ⟨Nat.le_of_ble_eq_true rfl, by
  show gk_W none (d + 1) 210 0 [some (.ref 27), some (.int x1), some (.int x2), some (.int x3)] [] w _ w
  refine gk_W_s 1 (pc1 := 1) (l1 := [some (.ref 27), some (.int x1), some (.int x2), some (.int x3)]) (st1 := [.int x1]) rfl ?_
  refine gk_W_c (i := .invokestatic 166) [.int (f_163 x1)] 4 rfl rfl rfl (f_163_E x1) rfl rfl ?_
  refine gk_W_b 1 ((f_163 x1) = 0) (t := 26) (e := 7) (l1 := [some (.ref 27), some (.int x1), some (.int x2), some (.int x3)]) (st1 := []) rfl (fun hp1 => ?_) (fun hp1 => ?_)
  · refine gk_W_b 5 (¬ x3 = (x2 + 1)) (t := 47) (e := 33) (l1 := [some (.ref 27), some (.int x1), some (.int x2), some (.int x3)]) (st1 := []) rfl (fun hp2 => ?_) (fun hp2 => ?_)
    · refine gk_W_s 1 (pc1 := 48) (l1 := [some (.ref 27), some (.int x1), some (.int x2), some (.int x3)]) (st1 := [.int 0]) rfl ?_
      rw [show f_210 w x1 x2 x3 = 0 by unfold f_210; rw [if_pos hp1, if_pos hp2]]
      exact gk_W_r (i := .ireturn) rfl rfl rfl
    · refine gk_W_s 1 (pc1 := 34) (l1 := [some (.ref 27), some (.int x1), some (.int x2), some (.int x3)]) (st1 := [.ref 27]) rfl ?_
      refine gk_W_h (i := .getfield 64) 37 rfl rfl (h_gr (a := 26) (k := 25) (m := 44) hS ly_26 rfl) rfl ?_
      refine gk_W_s 1 (pc1 := 38) (l1 := [some (.ref 27), some (.int x1), some (.int x2), some (.int x3)]) (st1 := [.int x2, .ref 44]) rfl ?_
      refine gk_W_h (i := .iaload) 39 rfl rfl (h_al (a := 43) (scr := none) hS ly_43 (hb3 hp1 hp2)) rfl ?_
      refine gk_W_b 2 (¬ ((w_a w 43).getD x2.toNatClampNeg 0) = x1) (t := 47) (e := 43) (l1 := [some (.ref 27), some (.int x1), some (.int x2), some (.int x3)]) (st1 := []) rfl (fun hp4 => ?_) (fun hp4 => ?_)
      · refine gk_W_s 1 (pc1 := 48) (l1 := [some (.ref 27), some (.int x1), some (.int x2), some (.int x3)]) (st1 := [.int 0]) rfl ?_
        rw [show f_210 w x1 x2 x3 = 0 by unfold f_210; rw [if_pos hp1, if_neg hp2, if_pos hp4]]
        exact gk_W_r (i := .ireturn) rfl rfl rfl
      · refine gk_W_s 2 (pc1 := 48) (l1 := [some (.ref 27), some (.int x1), some (.int x2), some (.int x3)]) (st1 := [.int 1]) rfl ?_
        rw [show f_210 w x1 x2 x3 = 1 by unfold f_210; rw [if_pos hp1, if_neg hp2, if_neg hp4]]
        exact gk_W_r (i := .ireturn) rfl rfl rfl
  · refine gk_W_s 1 (pc1 := 8) (l1 := [some (.ref 27), some (.int x1), some (.int x2), some (.int x3)]) (st1 := [.ref 27]) rfl ?_
    refine gk_W_h (i := .getfield 70) 11 rfl rfl (h_gr (a := 26) (k := 27) (m := 46) hS ly_26 rfl) rfl ?_
    refine gk_W_s 9 (pc1 := 22) (l1 := [some (.ref 27), some (.int x1), some (.int x2), some (.int x3)]) (st1 := [.int (((121 * x1) + (11 * x2)) + x3), .ref 46]) rfl ?_
    refine gk_W_h (i := .iaload) 23 rfl rfl (h_al (a := 45) (scr := none) hS ly_45 (hb5 hp1)) rfl ?_
    refine gk_W_s 1 (pc1 := 48) (l1 := [some (.ref 27), some (.int x1), some (.int x2), some (.int x3)]) (st1 := [.int ((w_a w 45).getD (((121 * x1) + (11 * x2)) + x3).toNatClampNeg 0)]) rfl ?_
    rw [show f_210 w x1 x2 x3 = (w_a w 45).getD (((121 * x1) + (11 * x2)) + x3).toNatClampNeg 0 by unfold f_210; rw [if_neg hp1]]
    exact gk_W_r (i := .ireturn) rfl rfl rfl⟩
/-- GrammarDeskModel.capped(J)I -/
def f_211 (y0 : Int64) : Int32 := if (lg_cmp y0 1000000) ≤ 0 then y0.toInt32 else 1000000
theorem f_211_E {d : Nat} {w : gk_Wd} (y0 : Int64) : gk_E (d + 0) 211 [.long y0] w (.inl (some (.int (f_211 y0)))) w := ⟨Nat.le_of_ble_eq_true rfl, by
  show gk_W none (d) 211 0 [some (.long y0), none] [] w _ w
  refine gk_W_s 1 (pc1 := 1) (l1 := [some (.long y0), none]) (st1 := [.long y0]) rfl ?_
  refine gk_W_h (i := .ldc2_w 279) 4 rfl rfl rfl rfl ?_
  refine gk_W_b 2 ((lg_cmp y0 1000000) ≤ 0) (t := 14) (e := 8) (l1 := [some (.long y0), none]) (st1 := []) rfl (fun hp1 => ?_) (fun hp1 => ?_)
  · refine gk_W_s 2 (pc1 := 16) (l1 := [some (.long y0), none]) (st1 := [.int (y0.toInt32)]) rfl ?_
    rw [show f_211 y0 = y0.toInt32 by unfold f_211; rw [if_pos hp1]]
    exact gk_W_r (i := .ireturn) rfl rfl rfl
  · refine gk_W_h (i := .ldc_w 281) 11 rfl rfl rfl rfl ?_
    refine gk_W_s 1 (pc1 := 16) (l1 := [some (.long y0), none]) (st1 := [.int 1000000]) rfl ?_
    rw [show f_211 y0 = 1000000 by unfold f_211; rw [if_neg hp1]]
    exact gk_W_r (i := .ireturn) rfl rfl rfl⟩
/-- GrammarDesk$Packed.characterOf(I)I -/
def f_27 (x0 : Int32) : Int32 := if (f_28 x0) = 0 then (97 + x0) - 16 else 65 + x0
theorem f_27_E {d : Nat} {w : gk_Wd} (x0 : Int32) : gk_E (d + 1) 27 [.int x0] w (.inl (some (.int (f_27 x0)))) w := ⟨Nat.le_of_ble_eq_true rfl, by
  show gk_W none (d + 1) 27 0 [some (.int x0)] [] w _ w
  refine gk_W_s 1 (pc1 := 1) (l1 := [some (.int x0)]) (st1 := [.int x0]) rfl ?_
  refine gk_W_c (i := .invokestatic 9) [.int (f_28 x0)] 4 rfl rfl rfl (f_28_E x0) rfl rfl ?_
  refine gk_W_b 1 ((f_28 x0) = 0) (t := 14) (e := 7) (l1 := [some (.int x0)]) (st1 := []) rfl (fun hp1 => ?_) (fun hp1 => ?_)
  · refine gk_W_s 5 (pc1 := 21) (l1 := [some (.int x0)]) (st1 := [.int ((97 + x0) - 16)]) rfl ?_
    rw [show f_27 x0 = (97 + x0) - 16 by unfold f_27; rw [if_pos hp1]]
    exact gk_W_r (i := .ireturn) rfl rfl rfl
  · refine gk_W_s 4 (pc1 := 21) (l1 := [some (.int x0)]) (st1 := [.int (65 + x0)]) rfl ?_
    rw [show f_27 x0 = 65 + x0 by unfold f_27; rw [if_neg hp1]]
    exact gk_W_r (i := .ireturn) rfl rfl rfl⟩
/-- GrammarDesk.step(I)I -/
def f_80 (w : gk_Wd) (x1 : Int32) : Int32 := if x1 < 0 then (-1) else if x1 < (f_81 w) then f_82 w x1 else (-1)
theorem f_80_E {d : Nat} {rr : List gk_S} {w : gk_Wd} (hS : gk_Sh rr w) (x1 : Int32) (hb3 : ¬ (x1 < 0) → (x1 < (f_81 w)) → (gk_out x1 10 = false)) : gk_E (d + 1) 80 [.ref 1, .int x1] w (.inl (some (.int (f_80 w x1)))) w := ⟨Nat.le_of_ble_eq_true rfl, by
  show gk_W none (d + 1) 80 0 [some (.ref 1), some (.int x1)] [] w _ w
  refine gk_W_b 2 (x1 < 0) (t := 15) (e := 4) (l1 := [some (.ref 1), some (.int x1)]) (st1 := []) rfl (fun hp1 => ?_) (fun hp1 => ?_)
  · refine gk_W_s 2 (pc1 := 27) (l1 := [some (.ref 1), some (.int x1)]) (st1 := [.int ((-1))]) rfl ?_
    rw [show f_80 w x1 = (-1) by unfold f_80; rw [if_pos hp1]]
    exact gk_W_r (i := .ireturn) rfl rfl rfl
  · refine gk_W_s 2 (pc1 := 6) (l1 := [some (.ref 1), some (.int x1)]) (st1 := [.ref 1, .int x1]) rfl ?_
    refine gk_W_h (i := .getfield 59) 9 rfl rfl (h_gr (a := 0) (k := 7) (m := 20) hS ly_0 rfl) rfl ?_
    refine gk_W_c (i := .invokevirtual 217) [.int (f_81 w), .int x1] 12 rfl rfl (c_v (a := 19) hS ly_19 rfl rfl (Nat.le_of_ble_eq_true rfl)) (f_81_E hS) rfl rfl ?_
    refine gk_W_b 1 (x1 < (f_81 w)) (t := 19) (e := 15) (l1 := [some (.ref 1), some (.int x1)]) (st1 := []) rfl (fun hp2 => ?_) (fun hp2 => ?_)
    · refine gk_W_s 1 (pc1 := 20) (l1 := [some (.ref 1), some (.int x1)]) (st1 := [.ref 1]) rfl ?_
      refine gk_W_h (i := .getfield 59) 23 rfl rfl (h_gr (a := 0) (k := 7) (m := 20) hS ly_0 rfl) rfl ?_
      refine gk_W_s 1 (pc1 := 24) (l1 := [some (.ref 1), some (.int x1)]) (st1 := [.int x1, .ref 20]) rfl ?_
      refine gk_W_c (i := .invokevirtual 220) [.int (f_82 w x1)] 27 rfl rfl (c_v (a := 19) hS ly_19 rfl rfl (Nat.le_of_ble_eq_true rfl)) (f_82_E hS x1 (hb3 hp1 hp2)) rfl rfl ?_
      rw [show f_80 w x1 = f_82 w x1 by unfold f_80; rw [if_neg hp1, if_pos hp2]]
      exact gk_W_r (i := .ireturn) rfl rfl rfl
    · refine gk_W_s 2 (pc1 := 27) (l1 := [some (.ref 1), some (.int x1)]) (st1 := [.int ((-1))]) rfl ?_
      rw [show f_80 w x1 = (-1) by unfold f_80; rw [if_neg hp1, if_neg hp2]]
      exact gk_W_r (i := .ireturn) rfl rfl rfl⟩
/-- GrammarDesk$Draft.mayStand(CI)Z -/
def f_86 (x0 : Int32) (x1 : Int32) : Int32 := if ¬ x1 = 0 then if ¬ x1 = 1 then if 8 ≤ x1 then 0 else if ¬ (f_67 x0) = 0 then 1 else if (f_87 x0) = 0 then 0 else 1 else if ¬ x0 = 58 then 0 else 1 else f_87 x0
theorem f_86_E {d : Nat} {w : gk_Wd} (x0 : Int32) (x1 : Int32) : gk_E (d + 1) 86 [.int x0, .int x1] w (.inl (some (.int (f_86 x0 x1)))) w := ⟨Nat.le_of_ble_eq_true rfl, by
  show gk_W none (d + 1) 86 0 [some (.int x0), some (.int x1)] [] w _ w
  refine gk_W_b 2 (¬ x1 = 0) (t := 9) (e := 4) (l1 := [some (.int x0), some (.int x1)]) (st1 := []) rfl (fun hp1 => ?_) (fun hp1 => ?_)
  · refine gk_W_b 3 (¬ x1 = 1) (t := 26) (e := 14) (l1 := [some (.int x0), some (.int x1)]) (st1 := []) rfl (fun hp2 => ?_) (fun hp2 => ?_)
    · refine gk_W_b 3 (8 ≤ x1) (t := 50) (e := 32) (l1 := [some (.int x0), some (.int x1)]) (st1 := []) rfl (fun hp3 => ?_) (fun hp3 => ?_)
      · refine gk_W_s 1 (pc1 := 51) (l1 := [some (.int x0), some (.int x1)]) (st1 := [.int 0]) rfl ?_
        rw [show f_86 x0 x1 = 0 by unfold f_86; rw [if_pos hp1, if_pos hp2, if_pos hp3]]
        exact gk_W_r (i := .ireturn) rfl rfl rfl
      · refine gk_W_s 1 (pc1 := 33) (l1 := [some (.int x0), some (.int x1)]) (st1 := [.int x0]) rfl ?_
        refine gk_W_c (i := .invokestatic 29) [.int (f_67 x0)] 36 rfl rfl rfl (f_67_E x0) rfl rfl ?_
        refine gk_W_b 1 (¬ (f_67 x0) = 0) (t := 46) (e := 39) (l1 := [some (.int x0), some (.int x1)]) (st1 := []) rfl (fun hp4 => ?_) (fun hp4 => ?_)
        · refine gk_W_s 2 (pc1 := 51) (l1 := [some (.int x0), some (.int x1)]) (st1 := [.int 1]) rfl ?_
          rw [show f_86 x0 x1 = 1 by unfold f_86; rw [if_pos hp1, if_pos hp2, if_neg hp3, if_pos hp4]]
          exact gk_W_r (i := .ireturn) rfl rfl rfl
        · refine gk_W_s 1 (pc1 := 40) (l1 := [some (.int x0), some (.int x1)]) (st1 := [.int x0]) rfl ?_
          refine gk_W_c (i := .invokestatic 23) [.int (f_87 x0)] 43 rfl rfl rfl (f_87_E x0) rfl rfl ?_
          refine gk_W_b 1 ((f_87 x0) = 0) (t := 50) (e := 46) (l1 := [some (.int x0), some (.int x1)]) (st1 := []) rfl (fun hp5 => ?_) (fun hp5 => ?_)
          · refine gk_W_s 1 (pc1 := 51) (l1 := [some (.int x0), some (.int x1)]) (st1 := [.int 0]) rfl ?_
            rw [show f_86 x0 x1 = 0 by unfold f_86; rw [if_pos hp1, if_pos hp2, if_neg hp3, if_neg hp4, if_pos hp5]]
            exact gk_W_r (i := .ireturn) rfl rfl rfl
          · refine gk_W_s 2 (pc1 := 51) (l1 := [some (.int x0), some (.int x1)]) (st1 := [.int 1]) rfl ?_
            rw [show f_86 x0 x1 = 1 by unfold f_86; rw [if_pos hp1, if_pos hp2, if_neg hp3, if_neg hp4, if_neg hp5]]
            exact gk_W_r (i := .ireturn) rfl rfl rfl
    · refine gk_W_b 3 (¬ x0 = 58) (t := 24) (e := 20) (l1 := [some (.int x0), some (.int x1)]) (st1 := []) rfl (fun hp6 => ?_) (fun hp6 => ?_)
      · refine gk_W_s 1 (pc1 := 25) (l1 := [some (.int x0), some (.int x1)]) (st1 := [.int 0]) rfl ?_
        rw [show f_86 x0 x1 = 0 by unfold f_86; rw [if_pos hp1, if_neg hp2, if_pos hp6]]
        exact gk_W_r (i := .ireturn) rfl rfl rfl
      · refine gk_W_s 2 (pc1 := 25) (l1 := [some (.int x0), some (.int x1)]) (st1 := [.int 1]) rfl ?_
        rw [show f_86 x0 x1 = 1 by unfold f_86; rw [if_pos hp1, if_neg hp2, if_neg hp6]]
        exact gk_W_r (i := .ireturn) rfl rfl rfl
  · refine gk_W_s 1 (pc1 := 5) (l1 := [some (.int x0), some (.int x1)]) (st1 := [.int x0]) rfl ?_
    refine gk_W_c (i := .invokestatic 23) [.int (f_87 x0)] 8 rfl rfl rfl (f_87_E x0) rfl rfl ?_
    rw [show f_86 x0 x1 = f_87 x0 by unfold f_86; rw [if_neg hp1]]
    exact gk_W_r (i := .ireturn) rfl rfl (gk_ret_f (f_87_b x0))⟩
theorem f_86_b (x0 : Int32) (x1 : Int32) : fits .boolean (.int (f_86 x0 x1)) = true := by
  unfold f_86
  repeat' split
  all_goals first | rfl | exact f_87_b x0
/-- GrammarDesk.symbol(II)I -/
def f_22 (w : gk_Wd) (x1 : Int32) (x2 : Int32) : Int32 := if x1 < 0 then (-1) else if x1 < (f_13 w 3) then if x2 < 0 then (-1) else if x2 ≤ (f_24 (f_23 w 3 x1)) then if ¬ x2 = 0 then f_27 (f_26 (f_23 w 3 x1) x2) else f_27 (f_25 (f_23 w 3 x1)) else (-1) else (-1)
theorem f_22_E {d : Nat} {rr : List gk_S} {w : gk_Wd} (hS : gk_Sh rr w) (x1 : Int32) (x2 : Int32) (hb3 : ¬ (x1 < 0) → (x1 < (f_13 w 3)) → (gk_out x1 60 = false)) : gk_E (d + 2) 22 [.ref 1, .int x1, .int x2] w (.inl (some (.int (f_22 w x1 x2)))) w := ⟨Nat.le_of_ble_eq_true rfl, by
  show gk_W none (d + 2) 22 0 [some (.ref 1), some (.int x1), some (.int x2), none, none] [] w _ w
  refine gk_W_b 2 (x1 < 0) (t := 15) (e := 4) (l1 := [some (.ref 1), some (.int x1), some (.int x2), none, none]) (st1 := []) rfl (fun hp1 => ?_) (fun hp1 => ?_)
  · refine gk_W_s 1 (pc1 := 16) (l1 := [some (.ref 1), some (.int x1), some (.int x2), none, none]) (st1 := [.int ((-1))]) rfl ?_
    rw [show f_22 w x1 x2 = (-1) by unfold f_22; rw [if_pos hp1]]
    exact gk_W_r (i := .ireturn) rfl rfl rfl
  · refine gk_W_s 2 (pc1 := 6) (l1 := [some (.ref 1), some (.int x1), some (.int x2), none, none]) (st1 := [.ref 1, .int x1]) rfl ?_
    refine gk_W_h (i := .getfield 19) 9 rfl rfl (h_gr (a := 0) (k := 1) (m := 4) hS ly_0 rfl) rfl ?_
    refine gk_W_c (i := .invokevirtual 101) [.int (f_13 w 3), .int x1] 12 rfl rfl (c_v (a := 3) hS ly_3 rfl rfl (Nat.le_of_ble_eq_true rfl)) (f_13_E hS rs_3) rfl rfl ?_
    refine gk_W_b 1 (x1 < (f_13 w 3)) (t := 17) (e := 15) (l1 := [some (.ref 1), some (.int x1), some (.int x2), none, none]) (st1 := []) rfl (fun hp2 => ?_) (fun hp2 => ?_)
    · refine gk_W_s 1 (pc1 := 18) (l1 := [some (.ref 1), some (.int x1), some (.int x2), none, none]) (st1 := [.ref 1]) rfl ?_
      refine gk_W_h (i := .getfield 19) 21 rfl rfl (h_gr (a := 0) (k := 1) (m := 4) hS ly_0 rfl) rfl ?_
      refine gk_W_s 1 (pc1 := 22) (l1 := [some (.ref 1), some (.int x1), some (.int x2), none, none]) (st1 := [.int x1, .ref 4]) rfl ?_
      refine gk_W_c (i := .invokevirtual 112) [.long (f_23 w 3 x1)] 25 rfl rfl (c_v (a := 3) hS ly_3 rfl rfl (Nat.le_of_ble_eq_true rfl)) (f_23_E hS rs_3 x1 (hb3 hp1 hp2)) rfl rfl ?_
      refine gk_W_b 3 (x2 < 0) (t := 38) (e := 30) (l1 := [some (.ref 1), some (.int x1), some (.int x2), some (.long (f_23 w 3 x1)), none]) (st1 := []) rfl (fun hp4 => ?_) (fun hp4 => ?_)
      · refine gk_W_s 1 (pc1 := 39) (l1 := [some (.ref 1), some (.int x1), some (.int x2), some (.long (f_23 w 3 x1)), none]) (st1 := [.int ((-1))]) rfl ?_
        rw [show f_22 w x1 x2 = (-1) by unfold f_22; rw [if_neg hp1, if_pos hp2, if_pos hp4]]
        exact gk_W_r (i := .ireturn) rfl rfl rfl
      · refine gk_W_s 2 (pc1 := 32) (l1 := [some (.ref 1), some (.int x1), some (.int x2), some (.long (f_23 w 3 x1)), none]) (st1 := [.long (f_23 w 3 x1), .int x2]) rfl ?_
        refine gk_W_c (i := .invokestatic 116) [.int (f_24 (f_23 w 3 x1)), .int x2] 35 rfl rfl rfl (f_24_E (f_23 w 3 x1)) rfl rfl ?_
        refine gk_W_b 1 (x2 ≤ (f_24 (f_23 w 3 x1))) (t := 40) (e := 38) (l1 := [some (.ref 1), some (.int x1), some (.int x2), some (.long (f_23 w 3 x1)), none]) (st1 := []) rfl (fun hp5 => ?_) (fun hp5 => ?_)
        · refine gk_W_b 2 (¬ x2 = 0) (t := 51) (e := 44) (l1 := [some (.ref 1), some (.int x1), some (.int x2), some (.long (f_23 w 3 x1)), none]) (st1 := []) rfl (fun hp6 => ?_) (fun hp6 => ?_)
          · refine gk_W_s 2 (pc1 := 53) (l1 := [some (.ref 1), some (.int x1), some (.int x2), some (.long (f_23 w 3 x1)), none]) (st1 := [.int x2, .long (f_23 w 3 x1)]) rfl ?_
            refine gk_W_c (i := .invokestatic 124) [.int (f_26 (f_23 w 3 x1) x2)] 56 rfl rfl rfl (f_26_E (f_23 w 3 x1) x2) rfl rfl ?_
            refine gk_W_c (i := .invokestatic 128) [.int (f_27 (f_26 (f_23 w 3 x1) x2))] 59 rfl rfl rfl (f_27_E (f_26 (f_23 w 3 x1) x2)) rfl rfl ?_
            rw [show f_22 w x1 x2 = f_27 (f_26 (f_23 w 3 x1) x2) by unfold f_22; rw [if_neg hp1, if_pos hp2, if_neg hp4, if_pos hp5, if_pos hp6]]
            exact gk_W_r (i := .ireturn) rfl rfl rfl
          · refine gk_W_s 1 (pc1 := 45) (l1 := [some (.ref 1), some (.int x1), some (.int x2), some (.long (f_23 w 3 x1)), none]) (st1 := [.long (f_23 w 3 x1)]) rfl ?_
            refine gk_W_c (i := .invokestatic 121) [.int (f_25 (f_23 w 3 x1))] 48 rfl rfl rfl (f_25_E (f_23 w 3 x1)) rfl rfl ?_
            refine gk_W_s 1 (pc1 := 56) (l1 := [some (.ref 1), some (.int x1), some (.int x2), some (.long (f_23 w 3 x1)), none]) (st1 := [.int (f_25 (f_23 w 3 x1))]) rfl ?_
            refine gk_W_c (i := .invokestatic 128) [.int (f_27 (f_25 (f_23 w 3 x1)))] 59 rfl rfl rfl (f_27_E (f_25 (f_23 w 3 x1))) rfl rfl ?_
            rw [show f_22 w x1 x2 = f_27 (f_25 (f_23 w 3 x1)) by unfold f_22; rw [if_neg hp1, if_pos hp2, if_neg hp4, if_pos hp5, if_neg hp6]]
            exact gk_W_r (i := .ireturn) rfl rfl rfl
        · refine gk_W_s 1 (pc1 := 39) (l1 := [some (.ref 1), some (.int x1), some (.int x2), some (.long (f_23 w 3 x1)), none]) (st1 := [.int ((-1))]) rfl ?_
          rw [show f_22 w x1 x2 = (-1) by unfold f_22; rw [if_neg hp1, if_pos hp2, if_neg hp4, if_neg hp5]]
          exact gk_W_r (i := .ireturn) rfl rfl rfl
    · refine gk_W_s 1 (pc1 := 16) (l1 := [some (.ref 1), some (.int x1), some (.int x2), none, none]) (st1 := [.int ((-1))]) rfl ?_
      rw [show f_22 w x1 x2 = (-1) by unfold f_22; rw [if_neg hp1, if_neg hp2]]
      exact gk_W_r (i := .ireturn) rfl rfl rfl⟩
