/-! printed by wip/whole/sym.py: the law, turn by turn -/
set_option maxRecDepth 20000 in
theorem lw_end {xs : List Int32} {rr : List gk_S} {w w' : gk_Wd} {r : gk_Res} (hS : gk_Sh rr w) (x4 : Int32) (hx : ((Int32.ofNat xs.length) - 3) < x4)
    (h : (r = .inl (some (.int 1)) ∧ w' = w)) :
    gk_W (some xs) 8 0 23 [some (.ref 0), some (.ref 1), some (.ref 27), some (.ref 55), some (.int x4), none, none] [] w r w' := by
  refine gk_W_s 2 (pc1 := 26) (l1 := [some (.ref 0), some (.ref 1), some (.ref 27), some (.ref 55), some (.int x4), none, none]) (st1 := [.ref 0, .int x4]) rfl ?_
  refine gk_W_h (i := .arraylength) 27 rfl rfl rfl rfl ?_
  refine gk_W_b 3 (((Int32.ofNat xs.length) - 3) < x4) (t := 734) (e := 32) (l1 := [some (.ref 0), some (.ref 1), some (.ref 27), some (.ref 55), some (.int x4), none, none]) (st1 := []) rfl (fun _ => ?_) (fun hp => absurd hx hp)
  refine gk_W_s 1 (pc1 := 735) (l1 := [some (.ref 0), some (.ref 1), some (.ref 27), some (.ref 55), some (.int x4), none, none]) (st1 := [.int 1]) rfl ?_
  obtain ⟨rfl, rfl⟩ := h
  exact gk_W_r (i := .ireturn) rfl rfl rfl
set_option maxRecDepth 20000 in
theorem lw_op0 {xs : List Int32} {rr : List gk_S} {w w' : gk_Wd} {r : gk_Res} (hS : gk_Sh rr w) (x4 : Int32) (hn : ¬ ((Int32.ofNat xs.length) - 3) < x4) (hx : (xs.getD x4.toNatClampNeg 0) &&& 31 = 0)
    (h : (gk_out x4 xs.length = false ∧ (gk_out (x4 + 1) xs.length = false ∧ (∃ (v4 : Int32), ∃ (w5 : gk_Wd), ∃ (rr6 : List gk_S), gk_E 7 9 [.ref 1, .int (((xs.getD (x4 + 1).toNatClampNeg 0).toUInt32 % 65536).toInt32)] w (.inl (some (.int v4))) w5 ∧ gk_Sh rr6 w5 ∧ (gk_out (x4 + 1) xs.length = false ∧ (∃ (v10 : Int32), ∃ (w11 : gk_Wd), ∃ (rr12 : List gk_S), gk_E 7 142 [.ref 27, .int (((xs.getD (x4 + 1).toNatClampNeg 0).toUInt32 % 65536).toInt32)] w5 (.inl (some (.int v10))) w11 ∧ gk_Sh rr12 w11 ∧ ((v4 = v10 → gk_W (some xs) 8 0 23 [some (.ref 0), some (.ref 1), some (.ref 27), some (.ref 55), some (.int (x4 + 3)), none, none] [] w11 r w') ∧ (¬ (v4 = v10) → (r = .inl (some (.int 0)) ∧ w' = w11))))))))) :
    gk_W (some xs) 8 0 23 [some (.ref 0), some (.ref 1), some (.ref 27), some (.ref 55), some (.int x4), none, none] [] w r w' := by
  refine gk_W_s 2 (pc1 := 26) (l1 := [some (.ref 0), some (.ref 1), some (.ref 27), some (.ref 55), some (.int x4), none, none]) (st1 := [.ref 0, .int x4]) rfl ?_
  refine gk_W_h (i := .arraylength) 27 rfl rfl rfl rfl ?_
  refine gk_W_b 3 (((Int32.ofNat xs.length) - 3) < x4) (t := 734) (e := 32) (l1 := [some (.ref 0), some (.ref 1), some (.ref 27), some (.ref 55), some (.int x4), none, none]) (st1 := []) rfl (fun hp => absurd hp hn) (fun _ => ?_)
  refine gk_W_s 2 (pc1 := 35) (l1 := [some (.ref 0), some (.ref 1), some (.ref 27), some (.ref 55), some (.int x4), none, none]) (st1 := [.int x4, .ref 0]) rfl ?_
  obtain ⟨hb1, h⟩ := h
  refine gk_W_h (i := .iaload) 36 rfl rfl (h_sl hb1) rfl ?_
  refine gk_W_s 2 (pc1 := 39) (l1 := [some (.ref 0), some (.ref 1), some (.ref 27), some (.ref 55), some (.int x4), none, none]) (st1 := [.int ((xs.getD x4.toNatClampNeg 0) &&& 31)]) rfl ?_
  rw [hx]
  refine gk_W_s 6 (pc1 := 146) (l1 := [some (.ref 0), some (.ref 1), some (.ref 27), some (.ref 55), some (.int x4), none, none]) (st1 := [.int (x4 + 1), .ref 0, .ref 1]) rfl ?_
  obtain ⟨hb2, h⟩ := h
  refine gk_W_h (i := .iaload) 147 rfl rfl (h_sl hb2) rfl ?_
  refine gk_W_s 1 (pc1 := 148) (l1 := [some (.ref 0), some (.ref 1), some (.ref 27), some (.ref 55), some (.int x4), none, none]) (st1 := [.int (((xs.getD (x4 + 1).toNatClampNeg 0).toUInt32 % 65536).toInt32), .ref 1]) rfl ?_
  obtain ⟨v4, w5, rr6, hE3, hS7, h⟩ := h
  refine gk_W_c (i := .invokevirtual 38) [.int v4] 151 rfl rfl (c_v (a := 0) hS ly_0 rfl rfl (Nat.le_of_ble_eq_true rfl)) hE3 rfl rfl ?_
  refine gk_W_s 5 (pc1 := 157) (l1 := [some (.ref 0), some (.ref 1), some (.ref 27), some (.ref 55), some (.int x4), none, none]) (st1 := [.int (x4 + 1), .ref 0, .ref 27, .int v4]) rfl ?_
  obtain ⟨hb8, h⟩ := h
  refine gk_W_h (i := .iaload) 158 rfl rfl (h_sl hb8) rfl ?_
  refine gk_W_s 1 (pc1 := 159) (l1 := [some (.ref 0), some (.ref 1), some (.ref 27), some (.ref 55), some (.int x4), none, none]) (st1 := [.int (((xs.getD (x4 + 1).toNatClampNeg 0).toUInt32 % 65536).toInt32), .ref 27, .int v4]) rfl ?_
  obtain ⟨v10, w11, rr12, hE9, hS13, h⟩ := h
  refine gk_W_c (i := .invokevirtual 42) [.int v10, .int v4] 162 rfl rfl (c_v (a := 26) hS7 ly_26 rfl rfl (Nat.le_of_ble_eq_true rfl)) hE9 rfl rfl ?_
  refine gk_W_b 1 (v4 = v10) (t := 728) (e := 165) (l1 := [some (.ref 0), some (.ref 1), some (.ref 27), some (.ref 55), some (.int x4), none, none]) (st1 := []) rfl (fun hp14 => ?_) (fun hp14 => ?_)
  · have h := h.1 hp14
    refine gk_W_s 2 (pc1 := 23) (l1 := [some (.ref 0), some (.ref 1), some (.ref 27), some (.ref 55), some (.int (x4 + 3)), none, none]) (st1 := []) rfl ?_
    exact h
  · have h := h.2 hp14
    refine gk_W_s 1 (pc1 := 166) (l1 := [some (.ref 0), some (.ref 1), some (.ref 27), some (.ref 55), some (.int x4), none, none]) (st1 := [.int 0]) rfl ?_
    obtain ⟨rfl, rfl⟩ := h
    exact gk_W_r (i := .ireturn) rfl rfl rfl
set_option maxRecDepth 20000 in
theorem lw_op1 {xs : List Int32} {rr : List gk_S} {w w' : gk_Wd} {r : gk_Res} (hS : gk_Sh rr w) (x4 : Int32) (hn : ¬ ((Int32.ofNat xs.length) - 3) < x4) (hx : (xs.getD x4.toNatClampNeg 0) &&& 31 = 1)
    (h : (gk_out x4 xs.length = false ∧ (∃ (v3 : Int32), ∃ (w4 : gk_Wd), ∃ (rr5 : List gk_S), gk_E 7 83 [.ref 1, .ref 55] w (.inl (some (.int v3))) w4 ∧ gk_Sh rr5 w4 ∧ (∃ (v8 : Int32), ∃ (w9 : gk_Wd), ∃ (rr10 : List gk_S), gk_E 7 143 [.ref 27] w4 (.inl (some (.int v8))) w9 ∧ gk_Sh rr10 w9 ∧ (∃ (v13 : Int32), ∃ (w14 : gk_Wd), ∃ (rr15 : List gk_S), gk_E 7 141 [.ref 27] w9 (.inl (some (.int v13))) w14 ∧ gk_Sh rr15 w14 ∧ ((v13 = v3 → ((¬ v3 = 0 → gk_W (some xs) 8 0 23 [some (.ref 0), some (.ref 1), some (.ref 27), some (.ref 55), some (.int (x4 + 3)), none, none] [] w14 r w') ∧ (¬ ¬ v3 = 0 → (((lg_cmp ((w_l w14 54).getD 0 0) (v8.toInt64)) = 0 → gk_W (some xs) 8 0 23 [some (.ref 0), some (.ref 1), some (.ref 27), some (.ref 55), some (.int (x4 + 3)), none, none] [] w14 r w') ∧ (¬ ((lg_cmp ((w_l w14 54).getD 0 0) (v8.toInt64)) = 0) → (r = .inl (some (.int 0)) ∧ w' = w14)))))) ∧ (¬ (v13 = v3) → (r = .inl (some (.int 0)) ∧ w' = w14)))))))) :
    gk_W (some xs) 8 0 23 [some (.ref 0), some (.ref 1), some (.ref 27), some (.ref 55), some (.int x4), none, none] [] w r w' := by
  refine gk_W_s 2 (pc1 := 26) (l1 := [some (.ref 0), some (.ref 1), some (.ref 27), some (.ref 55), some (.int x4), none, none]) (st1 := [.ref 0, .int x4]) rfl ?_
  refine gk_W_h (i := .arraylength) 27 rfl rfl rfl rfl ?_
  refine gk_W_b 3 (((Int32.ofNat xs.length) - 3) < x4) (t := 734) (e := 32) (l1 := [some (.ref 0), some (.ref 1), some (.ref 27), some (.ref 55), some (.int x4), none, none]) (st1 := []) rfl (fun hp => absurd hp hn) (fun _ => ?_)
  refine gk_W_s 2 (pc1 := 35) (l1 := [some (.ref 0), some (.ref 1), some (.ref 27), some (.ref 55), some (.int x4), none, none]) (st1 := [.int x4, .ref 0]) rfl ?_
  obtain ⟨hb1, h⟩ := h
  refine gk_W_h (i := .iaload) 36 rfl rfl (h_sl hb1) rfl ?_
  refine gk_W_s 2 (pc1 := 39) (l1 := [some (.ref 0), some (.ref 1), some (.ref 27), some (.ref 55), some (.int x4), none, none]) (st1 := [.int ((xs.getD x4.toNatClampNeg 0) &&& 31)]) rfl ?_
  rw [hx]
  refine gk_W_s 3 (pc1 := 169) (l1 := [some (.ref 0), some (.ref 1), some (.ref 27), some (.ref 55), some (.int x4), none, none]) (st1 := [.ref 55, .ref 1]) rfl ?_
  obtain ⟨v3, w4, rr5, hE2, hS6, h⟩ := h
  refine gk_W_c (i := .invokestatic 43) [.int v3] 172 rfl rfl rfl hE2 rfl rfl ?_
  refine gk_W_s 2 (pc1 := 175) (l1 := [some (.ref 0), some (.ref 1), some (.ref 27), some (.ref 55), some (.int x4), some (.int v3), none]) (st1 := [.ref 27]) rfl ?_
  obtain ⟨v8, w9, rr10, hE7, hS11, h⟩ := h
  refine gk_W_c (i := .invokevirtual 48) [.int v8] 178 rfl rfl (c_v (a := 26) hS6 ly_26 rfl rfl (Nat.le_of_ble_eq_true rfl)) hE7 rfl rfl ?_
  refine gk_W_s 2 (pc1 := 181) (l1 := [some (.ref 0), some (.ref 1), some (.ref 27), some (.ref 55), some (.int x4), some (.int v3), some (.int v8)]) (st1 := [.ref 27]) rfl ?_
  obtain ⟨v13, w14, rr15, hE12, hS16, h⟩ := h
  refine gk_W_c (i := .invokevirtual 49) [.int v13] 184 rfl rfl (c_v (a := 26) hS11 ly_26 rfl rfl (Nat.le_of_ble_eq_true rfl)) hE12 rfl rfl ?_
  refine gk_W_b 2 (v13 = v3) (t := 191) (e := 189) (l1 := [some (.ref 0), some (.ref 1), some (.ref 27), some (.ref 55), some (.int x4), some (.int v3), some (.int v8)]) (st1 := []) rfl (fun hp17 => ?_) (fun hp17 => ?_)
  · have h := h.1 hp17
    refine gk_W_b 2 (¬ v3 = 0) (t := 208) (e := 196) (l1 := [some (.ref 0), some (.ref 1), some (.ref 27), some (.ref 55), some (.int x4), some (.int v3), some (.int v8)]) (st1 := []) rfl (fun hp18 => ?_) (fun hp18 => ?_)
    · have h := h.1 hp18
      refine gk_W_s 3 (pc1 := 23) (l1 := [some (.ref 0), some (.ref 1), some (.ref 27), some (.ref 55), some (.int (x4 + 3)), some (.int v3), some (.int v8)]) (st1 := []) rfl ?_
      exact gk_W_le (gk_le_s (gk_le_s (gk_le_s (gk_le_s (gk_le_s (gk_le_n (gk_le_n (gk_le_0)))))))) h
    · have h := h.2 hp18
      refine gk_W_s 2 (pc1 := 198) (l1 := [some (.ref 0), some (.ref 1), some (.ref 27), some (.ref 55), some (.int x4), some (.int v3), some (.int v8)]) (st1 := [.int 0, .ref 55]) rfl ?_
      refine gk_W_h (i := .laload) 199 rfl rfl (h_ll (a := 54) hS16 ly_54 rfl) rfl ?_
      refine gk_W_b 4 ((lg_cmp ((w_l w14 54).getD 0 0) (v8.toInt64)) = 0) (t := 208) (e := 206) (l1 := [some (.ref 0), some (.ref 1), some (.ref 27), some (.ref 55), some (.int x4), some (.int v3), some (.int v8)]) (st1 := []) rfl (fun hp19 => ?_) (fun hp19 => ?_)
      · have h := h.1 hp19
        refine gk_W_s 3 (pc1 := 23) (l1 := [some (.ref 0), some (.ref 1), some (.ref 27), some (.ref 55), some (.int (x4 + 3)), some (.int v3), some (.int v8)]) (st1 := []) rfl ?_
        exact gk_W_le (gk_le_s (gk_le_s (gk_le_s (gk_le_s (gk_le_s (gk_le_n (gk_le_n (gk_le_0)))))))) h
      · have h := h.2 hp19
        refine gk_W_s 1 (pc1 := 207) (l1 := [some (.ref 0), some (.ref 1), some (.ref 27), some (.ref 55), some (.int x4), some (.int v3), some (.int v8)]) (st1 := [.int 0]) rfl ?_
        obtain ⟨rfl, rfl⟩ := h
        exact gk_W_r (i := .ireturn) rfl rfl rfl
  · have h := h.2 hp17
    refine gk_W_s 1 (pc1 := 190) (l1 := [some (.ref 0), some (.ref 1), some (.ref 27), some (.ref 55), some (.int x4), some (.int v3), some (.int v8)]) (st1 := [.int 0]) rfl ?_
    obtain ⟨rfl, rfl⟩ := h
    exact gk_W_r (i := .ireturn) rfl rfl rfl
set_option maxRecDepth 20000 in
theorem lw_op2 {xs : List Int32} {rr : List gk_S} {w w' : gk_Wd} {r : gk_Res} (hS : gk_Sh rr w) (x4 : Int32) (hn : ¬ ((Int32.ofNat xs.length) - 3) < x4) (hx : (xs.getD x4.toNatClampNeg 0) &&& 31 = 2)
    (h : (gk_out x4 xs.length = false ∧ (∃ (v3 : Int32), ∃ (w4 : gk_Wd), ∃ (rr5 : List gk_S), gk_E 7 11 [.ref 1] w (.inl (some (.int v3))) w4 ∧ gk_Sh rr5 w4 ∧ (∃ (v8 : Int32), ∃ (w9 : gk_Wd), ∃ (rr10 : List gk_S), gk_E 7 153 [.ref 27] w4 (.inl (some (.int v8))) w9 ∧ gk_Sh rr10 w9 ∧ ((v3 = v8 → gk_W (some xs) 8 0 23 [some (.ref 0), some (.ref 1), some (.ref 27), some (.ref 55), some (.int (x4 + 3)), none, none] [] w9 r w') ∧ (¬ (v3 = v8) → (r = .inl (some (.int 0)) ∧ w' = w9))))))) :
    gk_W (some xs) 8 0 23 [some (.ref 0), some (.ref 1), some (.ref 27), some (.ref 55), some (.int x4), none, none] [] w r w' := by
  refine gk_W_s 2 (pc1 := 26) (l1 := [some (.ref 0), some (.ref 1), some (.ref 27), some (.ref 55), some (.int x4), none, none]) (st1 := [.ref 0, .int x4]) rfl ?_
  refine gk_W_h (i := .arraylength) 27 rfl rfl rfl rfl ?_
  refine gk_W_b 3 (((Int32.ofNat xs.length) - 3) < x4) (t := 734) (e := 32) (l1 := [some (.ref 0), some (.ref 1), some (.ref 27), some (.ref 55), some (.int x4), none, none]) (st1 := []) rfl (fun hp => absurd hp hn) (fun _ => ?_)
  refine gk_W_s 2 (pc1 := 35) (l1 := [some (.ref 0), some (.ref 1), some (.ref 27), some (.ref 55), some (.int x4), none, none]) (st1 := [.int x4, .ref 0]) rfl ?_
  obtain ⟨hb1, h⟩ := h
  refine gk_W_h (i := .iaload) 36 rfl rfl (h_sl hb1) rfl ?_
  refine gk_W_s 2 (pc1 := 39) (l1 := [some (.ref 0), some (.ref 1), some (.ref 27), some (.ref 55), some (.int x4), none, none]) (st1 := [.int ((xs.getD x4.toNatClampNeg 0) &&& 31)]) rfl ?_
  rw [hx]
  refine gk_W_s 2 (pc1 := 212) (l1 := [some (.ref 0), some (.ref 1), some (.ref 27), some (.ref 55), some (.int x4), none, none]) (st1 := [.ref 1]) rfl ?_
  obtain ⟨v3, w4, rr5, hE2, hS6, h⟩ := h
  refine gk_W_c (i := .invokevirtual 52) [.int v3] 215 rfl rfl (c_v (a := 0) hS ly_0 rfl rfl (Nat.le_of_ble_eq_true rfl)) hE2 rfl rfl ?_
  refine gk_W_s 1 (pc1 := 216) (l1 := [some (.ref 0), some (.ref 1), some (.ref 27), some (.ref 55), some (.int x4), none, none]) (st1 := [.ref 27, .int v3]) rfl ?_
  obtain ⟨v8, w9, rr10, hE7, hS11, h⟩ := h
  refine gk_W_c (i := .invokevirtual 55) [.int v8, .int v3] 219 rfl rfl (c_v (a := 26) hS6 ly_26 rfl rfl (Nat.le_of_ble_eq_true rfl)) hE7 rfl rfl ?_
  refine gk_W_b 1 (v3 = v8) (t := 728) (e := 222) (l1 := [some (.ref 0), some (.ref 1), some (.ref 27), some (.ref 55), some (.int x4), none, none]) (st1 := []) rfl (fun hp12 => ?_) (fun hp12 => ?_)
  · have h := h.1 hp12
    refine gk_W_s 2 (pc1 := 23) (l1 := [some (.ref 0), some (.ref 1), some (.ref 27), some (.ref 55), some (.int (x4 + 3)), none, none]) (st1 := []) rfl ?_
    exact h
  · have h := h.2 hp12
    refine gk_W_s 1 (pc1 := 223) (l1 := [some (.ref 0), some (.ref 1), some (.ref 27), some (.ref 55), some (.int x4), none, none]) (st1 := [.int 0]) rfl ?_
    obtain ⟨rfl, rfl⟩ := h
    exact gk_W_r (i := .ireturn) rfl rfl rfl
set_option maxRecDepth 20000 in
theorem lw_op3 {xs : List Int32} {rr : List gk_S} {w w' : gk_Wd} {r : gk_Res} (hS : gk_Sh rr w) (x4 : Int32) (hn : ¬ ((Int32.ofNat xs.length) - 3) < x4) (hx : (xs.getD x4.toNatClampNeg 0) &&& 31 = 3)
    (h : (gk_out x4 xs.length = false ∧ (gk_out (x4 + 1) xs.length = false ∧ (∃ (v4 : Int32), ∃ (w5 : gk_Wd), ∃ (rr6 : List gk_S), gk_E 7 12 [.ref 1, .int (xs.getD (x4 + 1).toNatClampNeg 0)] w (.inl (some (.int v4))) w5 ∧ gk_Sh rr6 w5 ∧ (gk_out (x4 + 1) xs.length = false ∧ (∃ (v10 : Int32), ∃ (w11 : gk_Wd), ∃ (rr12 : List gk_S), gk_E 7 154 [.ref 27, .int (xs.getD (x4 + 1).toNatClampNeg 0)] w5 (.inl (some (.int v10))) w11 ∧ gk_Sh rr12 w11 ∧ ((v4 = v10 → gk_W (some xs) 8 0 23 [some (.ref 0), some (.ref 1), some (.ref 27), some (.ref 55), some (.int (x4 + 3)), none, none] [] w11 r w') ∧ (¬ (v4 = v10) → (r = .inl (some (.int 0)) ∧ w' = w11))))))))) :
    gk_W (some xs) 8 0 23 [some (.ref 0), some (.ref 1), some (.ref 27), some (.ref 55), some (.int x4), none, none] [] w r w' := by
  refine gk_W_s 2 (pc1 := 26) (l1 := [some (.ref 0), some (.ref 1), some (.ref 27), some (.ref 55), some (.int x4), none, none]) (st1 := [.ref 0, .int x4]) rfl ?_
  refine gk_W_h (i := .arraylength) 27 rfl rfl rfl rfl ?_
  refine gk_W_b 3 (((Int32.ofNat xs.length) - 3) < x4) (t := 734) (e := 32) (l1 := [some (.ref 0), some (.ref 1), some (.ref 27), some (.ref 55), some (.int x4), none, none]) (st1 := []) rfl (fun hp => absurd hp hn) (fun _ => ?_)
  refine gk_W_s 2 (pc1 := 35) (l1 := [some (.ref 0), some (.ref 1), some (.ref 27), some (.ref 55), some (.int x4), none, none]) (st1 := [.int x4, .ref 0]) rfl ?_
  obtain ⟨hb1, h⟩ := h
  refine gk_W_h (i := .iaload) 36 rfl rfl (h_sl hb1) rfl ?_
  refine gk_W_s 2 (pc1 := 39) (l1 := [some (.ref 0), some (.ref 1), some (.ref 27), some (.ref 55), some (.int x4), none, none]) (st1 := [.int ((xs.getD x4.toNatClampNeg 0) &&& 31)]) rfl ?_
  rw [hx]
  refine gk_W_s 6 (pc1 := 230) (l1 := [some (.ref 0), some (.ref 1), some (.ref 27), some (.ref 55), some (.int x4), none, none]) (st1 := [.int (x4 + 1), .ref 0, .ref 1]) rfl ?_
  obtain ⟨hb2, h⟩ := h
  refine gk_W_h (i := .iaload) 231 rfl rfl (h_sl hb2) rfl ?_
  obtain ⟨v4, w5, rr6, hE3, hS7, h⟩ := h
  refine gk_W_c (i := .invokevirtual 56) [.int v4] 234 rfl rfl (c_v (a := 0) hS ly_0 rfl rfl (Nat.le_of_ble_eq_true rfl)) hE3 rfl rfl ?_
  refine gk_W_s 5 (pc1 := 240) (l1 := [some (.ref 0), some (.ref 1), some (.ref 27), some (.ref 55), some (.int x4), none, none]) (st1 := [.int (x4 + 1), .ref 0, .ref 27, .int v4]) rfl ?_
  obtain ⟨hb8, h⟩ := h
  refine gk_W_h (i := .iaload) 241 rfl rfl (h_sl hb8) rfl ?_
  obtain ⟨v10, w11, rr12, hE9, hS13, h⟩ := h
  refine gk_W_c (i := .invokevirtual 60) [.int v10, .int v4] 244 rfl rfl (c_v (a := 26) hS7 ly_26 rfl rfl (Nat.le_of_ble_eq_true rfl)) hE9 rfl rfl ?_
  refine gk_W_b 1 (v4 = v10) (t := 728) (e := 247) (l1 := [some (.ref 0), some (.ref 1), some (.ref 27), some (.ref 55), some (.int x4), none, none]) (st1 := []) rfl (fun hp14 => ?_) (fun hp14 => ?_)
  · have h := h.1 hp14
    refine gk_W_s 2 (pc1 := 23) (l1 := [some (.ref 0), some (.ref 1), some (.ref 27), some (.ref 55), some (.int (x4 + 3)), none, none]) (st1 := []) rfl ?_
    exact h
  · have h := h.2 hp14
    refine gk_W_s 1 (pc1 := 248) (l1 := [some (.ref 0), some (.ref 1), some (.ref 27), some (.ref 55), some (.int x4), none, none]) (st1 := [.int 0]) rfl ?_
    obtain ⟨rfl, rfl⟩ := h
    exact gk_W_r (i := .ireturn) rfl rfl rfl
set_option maxRecDepth 20000 in
theorem lw_op4 {xs : List Int32} {rr : List gk_S} {w w' : gk_Wd} {r : gk_Res} (hS : gk_Sh rr w) (x4 : Int32) (hn : ¬ ((Int32.ofNat xs.length) - 3) < x4) (hx : (xs.getD x4.toNatClampNeg 0) &&& 31 = 4)
    (h : (gk_out x4 xs.length = false ∧ (∃ (v3 : Int32), ∃ (w4 : gk_Wd), ∃ (rr5 : List gk_S), gk_E 7 16 [.ref 1] w (.inl (some (.int v3))) w4 ∧ gk_Sh rr5 w4 ∧ (∃ (v8 : Int32), ∃ (w9 : gk_Wd), ∃ (rr10 : List gk_S), gk_E 7 156 [.ref 27] w4 (.inl (some (.int v8))) w9 ∧ gk_Sh rr10 w9 ∧ ((v3 = v8 → gk_W (some xs) 8 0 23 [some (.ref 0), some (.ref 1), some (.ref 27), some (.ref 55), some (.int (x4 + 3)), none, none] [] w9 r w') ∧ (¬ (v3 = v8) → (r = .inl (some (.int 0)) ∧ w' = w9))))))) :
    gk_W (some xs) 8 0 23 [some (.ref 0), some (.ref 1), some (.ref 27), some (.ref 55), some (.int x4), none, none] [] w r w' := by
  refine gk_W_s 2 (pc1 := 26) (l1 := [some (.ref 0), some (.ref 1), some (.ref 27), some (.ref 55), some (.int x4), none, none]) (st1 := [.ref 0, .int x4]) rfl ?_
  refine gk_W_h (i := .arraylength) 27 rfl rfl rfl rfl ?_
  refine gk_W_b 3 (((Int32.ofNat xs.length) - 3) < x4) (t := 734) (e := 32) (l1 := [some (.ref 0), some (.ref 1), some (.ref 27), some (.ref 55), some (.int x4), none, none]) (st1 := []) rfl (fun hp => absurd hp hn) (fun _ => ?_)
  refine gk_W_s 2 (pc1 := 35) (l1 := [some (.ref 0), some (.ref 1), some (.ref 27), some (.ref 55), some (.int x4), none, none]) (st1 := [.int x4, .ref 0]) rfl ?_
  obtain ⟨hb1, h⟩ := h
  refine gk_W_h (i := .iaload) 36 rfl rfl (h_sl hb1) rfl ?_
  refine gk_W_s 2 (pc1 := 39) (l1 := [some (.ref 0), some (.ref 1), some (.ref 27), some (.ref 55), some (.int x4), none, none]) (st1 := [.int ((xs.getD x4.toNatClampNeg 0) &&& 31)]) rfl ?_
  rw [hx]
  refine gk_W_s 2 (pc1 := 250) (l1 := [some (.ref 0), some (.ref 1), some (.ref 27), some (.ref 55), some (.int x4), none, none]) (st1 := [.ref 1]) rfl ?_
  obtain ⟨v3, w4, rr5, hE2, hS6, h⟩ := h
  refine gk_W_c (i := .invokevirtual 61) [.int v3] 253 rfl rfl (c_v (a := 0) hS ly_0 rfl rfl (Nat.le_of_ble_eq_true rfl)) hE2 rfl rfl ?_
  refine gk_W_s 1 (pc1 := 254) (l1 := [some (.ref 0), some (.ref 1), some (.ref 27), some (.ref 55), some (.int x4), none, none]) (st1 := [.ref 27, .int v3]) rfl ?_
  obtain ⟨v8, w9, rr10, hE7, hS11, h⟩ := h
  refine gk_W_c (i := .invokevirtual 64) [.int v8, .int v3] 257 rfl rfl (c_v (a := 26) hS6 ly_26 rfl rfl (Nat.le_of_ble_eq_true rfl)) hE7 rfl rfl ?_
  refine gk_W_b 1 (v3 = v8) (t := 728) (e := 260) (l1 := [some (.ref 0), some (.ref 1), some (.ref 27), some (.ref 55), some (.int x4), none, none]) (st1 := []) rfl (fun hp12 => ?_) (fun hp12 => ?_)
  · have h := h.1 hp12
    refine gk_W_s 2 (pc1 := 23) (l1 := [some (.ref 0), some (.ref 1), some (.ref 27), some (.ref 55), some (.int (x4 + 3)), none, none]) (st1 := []) rfl ?_
    exact h
  · have h := h.2 hp12
    refine gk_W_s 1 (pc1 := 261) (l1 := [some (.ref 0), some (.ref 1), some (.ref 27), some (.ref 55), some (.int x4), none, none]) (st1 := [.int 0]) rfl ?_
    obtain ⟨rfl, rfl⟩ := h
    exact gk_W_r (i := .ireturn) rfl rfl rfl
set_option maxRecDepth 20000 in
theorem lw_op5 {xs : List Int32} {rr : List gk_S} {w w' : gk_Wd} {r : gk_Res} (hS : gk_Sh rr w) (x4 : Int32) (hn : ¬ ((Int32.ofNat xs.length) - 3) < x4) (hx : (xs.getD x4.toNatClampNeg 0) &&& 31 = 5)
    (h : (gk_out x4 xs.length = false ∧ (∃ (v3 : Int32), ∃ (w4 : gk_Wd), ∃ (rr5 : List gk_S), gk_E 7 21 [.ref 1] w (.inl (some (.int v3))) w4 ∧ gk_Sh rr5 w4 ∧ (∃ (v8 : Int32), ∃ (w9 : gk_Wd), ∃ (rr10 : List gk_S), gk_E 7 157 [.ref 27] w4 (.inl (some (.int v8))) w9 ∧ gk_Sh rr10 w9 ∧ ((v3 = v8 → gk_W (some xs) 8 0 23 [some (.ref 0), some (.ref 1), some (.ref 27), some (.ref 55), some (.int (x4 + 3)), none, none] [] w9 r w') ∧ (¬ (v3 = v8) → (r = .inl (some (.int 0)) ∧ w' = w9))))))) :
    gk_W (some xs) 8 0 23 [some (.ref 0), some (.ref 1), some (.ref 27), some (.ref 55), some (.int x4), none, none] [] w r w' := by
  refine gk_W_s 2 (pc1 := 26) (l1 := [some (.ref 0), some (.ref 1), some (.ref 27), some (.ref 55), some (.int x4), none, none]) (st1 := [.ref 0, .int x4]) rfl ?_
  refine gk_W_h (i := .arraylength) 27 rfl rfl rfl rfl ?_
  refine gk_W_b 3 (((Int32.ofNat xs.length) - 3) < x4) (t := 734) (e := 32) (l1 := [some (.ref 0), some (.ref 1), some (.ref 27), some (.ref 55), some (.int x4), none, none]) (st1 := []) rfl (fun hp => absurd hp hn) (fun _ => ?_)
  refine gk_W_s 2 (pc1 := 35) (l1 := [some (.ref 0), some (.ref 1), some (.ref 27), some (.ref 55), some (.int x4), none, none]) (st1 := [.int x4, .ref 0]) rfl ?_
  obtain ⟨hb1, h⟩ := h
  refine gk_W_h (i := .iaload) 36 rfl rfl (h_sl hb1) rfl ?_
  refine gk_W_s 2 (pc1 := 39) (l1 := [some (.ref 0), some (.ref 1), some (.ref 27), some (.ref 55), some (.int x4), none, none]) (st1 := [.int ((xs.getD x4.toNatClampNeg 0) &&& 31)]) rfl ?_
  rw [hx]
  refine gk_W_s 2 (pc1 := 263) (l1 := [some (.ref 0), some (.ref 1), some (.ref 27), some (.ref 55), some (.int x4), none, none]) (st1 := [.ref 1]) rfl ?_
  obtain ⟨v3, w4, rr5, hE2, hS6, h⟩ := h
  refine gk_W_c (i := .invokevirtual 65) [.int v3] 266 rfl rfl (c_v (a := 0) hS ly_0 rfl rfl (Nat.le_of_ble_eq_true rfl)) hE2 rfl rfl ?_
  refine gk_W_s 1 (pc1 := 267) (l1 := [some (.ref 0), some (.ref 1), some (.ref 27), some (.ref 55), some (.int x4), none, none]) (st1 := [.ref 27, .int v3]) rfl ?_
  obtain ⟨v8, w9, rr10, hE7, hS11, h⟩ := h
  refine gk_W_c (i := .invokevirtual 68) [.int v8, .int v3] 270 rfl rfl (c_v (a := 26) hS6 ly_26 rfl rfl (Nat.le_of_ble_eq_true rfl)) hE7 rfl rfl ?_
  refine gk_W_b 1 (v3 = v8) (t := 728) (e := 273) (l1 := [some (.ref 0), some (.ref 1), some (.ref 27), some (.ref 55), some (.int x4), none, none]) (st1 := []) rfl (fun hp12 => ?_) (fun hp12 => ?_)
  · have h := h.1 hp12
    refine gk_W_s 2 (pc1 := 23) (l1 := [some (.ref 0), some (.ref 1), some (.ref 27), some (.ref 55), some (.int (x4 + 3)), none, none]) (st1 := []) rfl ?_
    exact h
  · have h := h.2 hp12
    refine gk_W_s 1 (pc1 := 274) (l1 := [some (.ref 0), some (.ref 1), some (.ref 27), some (.ref 55), some (.int x4), none, none]) (st1 := [.int 0]) rfl ?_
    obtain ⟨rfl, rfl⟩ := h
    exact gk_W_r (i := .ireturn) rfl rfl rfl
set_option maxRecDepth 20000 in
theorem lw_op6 {xs : List Int32} {rr : List gk_S} {w w' : gk_Wd} {r : gk_Res} (hS : gk_Sh rr w) (x4 : Int32) (hn : ¬ ((Int32.ofNat xs.length) - 3) < x4) (hx : (xs.getD x4.toNatClampNeg 0) &&& 31 = 6)
    (h : (gk_out x4 xs.length = false ∧ (gk_out (x4 + 1) xs.length = false ∧ (gk_out (x4 + 2) xs.length = false ∧ (∃ (v5 : Int32), ∃ (w6 : gk_Wd), ∃ (rr7 : List gk_S), gk_E 7 22 [.ref 1, .int (xs.getD (x4 + 1).toNatClampNeg 0), .int (xs.getD (x4 + 2).toNatClampNeg 0)] w (.inl (some (.int v5))) w6 ∧ gk_Sh rr7 w6 ∧ (gk_out (x4 + 1) xs.length = false ∧ (gk_out (x4 + 2) xs.length = false ∧ (∃ (v12 : Int32), ∃ (w13 : gk_Wd), ∃ (rr14 : List gk_S), gk_E 7 158 [.ref 27, .int (xs.getD (x4 + 1).toNatClampNeg 0), .int (xs.getD (x4 + 2).toNatClampNeg 0)] w6 (.inl (some (.int v12))) w13 ∧ gk_Sh rr14 w13 ∧ ((v5 = v12 → gk_W (some xs) 8 0 23 [some (.ref 0), some (.ref 1), some (.ref 27), some (.ref 55), some (.int (x4 + 3)), none, none] [] w13 r w') ∧ (¬ (v5 = v12) → (r = .inl (some (.int 0)) ∧ w' = w13))))))))))) :
    gk_W (some xs) 8 0 23 [some (.ref 0), some (.ref 1), some (.ref 27), some (.ref 55), some (.int x4), none, none] [] w r w' := by
  refine gk_W_s 2 (pc1 := 26) (l1 := [some (.ref 0), some (.ref 1), some (.ref 27), some (.ref 55), some (.int x4), none, none]) (st1 := [.ref 0, .int x4]) rfl ?_
  refine gk_W_h (i := .arraylength) 27 rfl rfl rfl rfl ?_
  refine gk_W_b 3 (((Int32.ofNat xs.length) - 3) < x4) (t := 734) (e := 32) (l1 := [some (.ref 0), some (.ref 1), some (.ref 27), some (.ref 55), some (.int x4), none, none]) (st1 := []) rfl (fun hp => absurd hp hn) (fun _ => ?_)
  refine gk_W_s 2 (pc1 := 35) (l1 := [some (.ref 0), some (.ref 1), some (.ref 27), some (.ref 55), some (.int x4), none, none]) (st1 := [.int x4, .ref 0]) rfl ?_
  obtain ⟨hb1, h⟩ := h
  refine gk_W_h (i := .iaload) 36 rfl rfl (h_sl hb1) rfl ?_
  refine gk_W_s 2 (pc1 := 39) (l1 := [some (.ref 0), some (.ref 1), some (.ref 27), some (.ref 55), some (.int x4), none, none]) (st1 := [.int ((xs.getD x4.toNatClampNeg 0) &&& 31)]) rfl ?_
  rw [hx]
  refine gk_W_s 6 (pc1 := 281) (l1 := [some (.ref 0), some (.ref 1), some (.ref 27), some (.ref 55), some (.int x4), none, none]) (st1 := [.int (x4 + 1), .ref 0, .ref 1]) rfl ?_
  obtain ⟨hb2, h⟩ := h
  refine gk_W_h (i := .iaload) 282 rfl rfl (h_sl hb2) rfl ?_
  refine gk_W_s 4 (pc1 := 287) (l1 := [some (.ref 0), some (.ref 1), some (.ref 27), some (.ref 55), some (.int x4), none, none]) (st1 := [.int (x4 + 2), .ref 0, .int (xs.getD (x4 + 1).toNatClampNeg 0), .ref 1]) rfl ?_
  obtain ⟨hb3, h⟩ := h
  refine gk_W_h (i := .iaload) 288 rfl rfl (h_sl hb3) rfl ?_
  obtain ⟨v5, w6, rr7, hE4, hS8, h⟩ := h
  refine gk_W_c (i := .invokevirtual 69) [.int v5] 291 rfl rfl (c_v (a := 0) hS ly_0 rfl rfl (Nat.le_of_ble_eq_true rfl)) hE4 rfl rfl ?_
  refine gk_W_s 5 (pc1 := 297) (l1 := [some (.ref 0), some (.ref 1), some (.ref 27), some (.ref 55), some (.int x4), none, none]) (st1 := [.int (x4 + 1), .ref 0, .ref 27, .int v5]) rfl ?_
  obtain ⟨hb9, h⟩ := h
  refine gk_W_h (i := .iaload) 298 rfl rfl (h_sl hb9) rfl ?_
  refine gk_W_s 4 (pc1 := 303) (l1 := [some (.ref 0), some (.ref 1), some (.ref 27), some (.ref 55), some (.int x4), none, none]) (st1 := [.int (x4 + 2), .ref 0, .int (xs.getD (x4 + 1).toNatClampNeg 0), .ref 27, .int v5]) rfl ?_
  obtain ⟨hb10, h⟩ := h
  refine gk_W_h (i := .iaload) 304 rfl rfl (h_sl hb10) rfl ?_
  obtain ⟨v12, w13, rr14, hE11, hS15, h⟩ := h
  refine gk_W_c (i := .invokevirtual 73) [.int v12, .int v5] 307 rfl rfl (c_v (a := 26) hS8 ly_26 rfl rfl (Nat.le_of_ble_eq_true rfl)) hE11 rfl rfl ?_
  refine gk_W_b 1 (v5 = v12) (t := 728) (e := 310) (l1 := [some (.ref 0), some (.ref 1), some (.ref 27), some (.ref 55), some (.int x4), none, none]) (st1 := []) rfl (fun hp16 => ?_) (fun hp16 => ?_)
  · have h := h.1 hp16
    refine gk_W_s 2 (pc1 := 23) (l1 := [some (.ref 0), some (.ref 1), some (.ref 27), some (.ref 55), some (.int (x4 + 3)), none, none]) (st1 := []) rfl ?_
    exact h
  · have h := h.2 hp16
    refine gk_W_s 1 (pc1 := 311) (l1 := [some (.ref 0), some (.ref 1), some (.ref 27), some (.ref 55), some (.int x4), none, none]) (st1 := [.int 0]) rfl ?_
    obtain ⟨rfl, rfl⟩ := h
    exact gk_W_r (i := .ireturn) rfl rfl rfl
set_option maxRecDepth 20000 in
theorem lw_op7 {xs : List Int32} {rr : List gk_S} {w w' : gk_Wd} {r : gk_Res} (hS : gk_Sh rr w) (x4 : Int32) (hn : ¬ ((Int32.ofNat xs.length) - 3) < x4) (hx : (xs.getD x4.toNatClampNeg 0) &&& 31 = 7)
    (h : (gk_out x4 xs.length = false ∧ (∃ (v3 : Int32), ∃ (w4 : gk_Wd), ∃ (rr5 : List gk_S), gk_E 7 29 [.ref 1] w (.inl (some (.int v3))) w4 ∧ gk_Sh rr5 w4 ∧ (∃ (v8 : Int32), ∃ (w9 : gk_Wd), ∃ (rr10 : List gk_S), gk_E 7 160 [.ref 27] w4 (.inl (some (.int v8))) w9 ∧ gk_Sh rr10 w9 ∧ ((v3 = v8 → gk_W (some xs) 8 0 23 [some (.ref 0), some (.ref 1), some (.ref 27), some (.ref 55), some (.int (x4 + 3)), none, none] [] w9 r w') ∧ (¬ (v3 = v8) → (r = .inl (some (.int 0)) ∧ w' = w9))))))) :
    gk_W (some xs) 8 0 23 [some (.ref 0), some (.ref 1), some (.ref 27), some (.ref 55), some (.int x4), none, none] [] w r w' := by
  refine gk_W_s 2 (pc1 := 26) (l1 := [some (.ref 0), some (.ref 1), some (.ref 27), some (.ref 55), some (.int x4), none, none]) (st1 := [.ref 0, .int x4]) rfl ?_
  refine gk_W_h (i := .arraylength) 27 rfl rfl rfl rfl ?_
  refine gk_W_b 3 (((Int32.ofNat xs.length) - 3) < x4) (t := 734) (e := 32) (l1 := [some (.ref 0), some (.ref 1), some (.ref 27), some (.ref 55), some (.int x4), none, none]) (st1 := []) rfl (fun hp => absurd hp hn) (fun _ => ?_)
  refine gk_W_s 2 (pc1 := 35) (l1 := [some (.ref 0), some (.ref 1), some (.ref 27), some (.ref 55), some (.int x4), none, none]) (st1 := [.int x4, .ref 0]) rfl ?_
  obtain ⟨hb1, h⟩ := h
  refine gk_W_h (i := .iaload) 36 rfl rfl (h_sl hb1) rfl ?_
  refine gk_W_s 2 (pc1 := 39) (l1 := [some (.ref 0), some (.ref 1), some (.ref 27), some (.ref 55), some (.int x4), none, none]) (st1 := [.int ((xs.getD x4.toNatClampNeg 0) &&& 31)]) rfl ?_
  rw [hx]
  refine gk_W_s 2 (pc1 := 313) (l1 := [some (.ref 0), some (.ref 1), some (.ref 27), some (.ref 55), some (.int x4), none, none]) (st1 := [.ref 1]) rfl ?_
  obtain ⟨v3, w4, rr5, hE2, hS6, h⟩ := h
  refine gk_W_c (i := .invokevirtual 74) [.int v3] 316 rfl rfl (c_v (a := 0) hS ly_0 rfl rfl (Nat.le_of_ble_eq_true rfl)) hE2 rfl rfl ?_
  refine gk_W_s 1 (pc1 := 317) (l1 := [some (.ref 0), some (.ref 1), some (.ref 27), some (.ref 55), some (.int x4), none, none]) (st1 := [.ref 27, .int v3]) rfl ?_
  obtain ⟨v8, w9, rr10, hE7, hS11, h⟩ := h
  refine gk_W_c (i := .invokevirtual 77) [.int v8, .int v3] 320 rfl rfl (c_v (a := 26) hS6 ly_26 rfl rfl (Nat.le_of_ble_eq_true rfl)) hE7 rfl rfl ?_
  refine gk_W_b 1 (v3 = v8) (t := 728) (e := 323) (l1 := [some (.ref 0), some (.ref 1), some (.ref 27), some (.ref 55), some (.int x4), none, none]) (st1 := []) rfl (fun hp12 => ?_) (fun hp12 => ?_)
  · have h := h.1 hp12
    refine gk_W_s 2 (pc1 := 23) (l1 := [some (.ref 0), some (.ref 1), some (.ref 27), some (.ref 55), some (.int (x4 + 3)), none, none]) (st1 := []) rfl ?_
    exact h
  · have h := h.2 hp12
    refine gk_W_s 1 (pc1 := 324) (l1 := [some (.ref 0), some (.ref 1), some (.ref 27), some (.ref 55), some (.int x4), none, none]) (st1 := [.int 0]) rfl ?_
    obtain ⟨rfl, rfl⟩ := h
    exact gk_W_r (i := .ireturn) rfl rfl rfl
set_option maxRecDepth 20000 in
theorem lw_op8 {xs : List Int32} {rr : List gk_S} {w w' : gk_Wd} {r : gk_Res} (hS : gk_Sh rr w) (x4 : Int32) (hn : ¬ ((Int32.ofNat xs.length) - 3) < x4) (hx : (xs.getD x4.toNatClampNeg 0) &&& 31 = 8)
    (h : (gk_out x4 xs.length = false ∧ (∃ (v3 : Int32), ∃ (w4 : gk_Wd), ∃ (rr5 : List gk_S), gk_E 7 95 [.ref 1, .ref 55] w (.inl (some (.int v3))) w4 ∧ gk_Sh rr5 w4 ∧ (∃ (v8 : Int32), ∃ (w9 : gk_Wd), ∃ (rr10 : List gk_S), gk_E 7 166 [.ref 27] w4 (.inl (some (.int v8))) w9 ∧ gk_Sh rr10 w9 ∧ (∃ (v13 : Int32), ∃ (w14 : gk_Wd), ∃ (rr15 : List gk_S), gk_E 7 141 [.ref 27] w9 (.inl (some (.int v13))) w14 ∧ gk_Sh rr15 w14 ∧ ((v13 = v3 → ((¬ v3 = 0 → gk_W (some xs) 8 0 23 [some (.ref 0), some (.ref 1), some (.ref 27), some (.ref 55), some (.int (x4 + 3)), none, none] [] w14 r w') ∧ (¬ ¬ v3 = 0 → (((lg_cmp ((w_l w14 54).getD 0 0) (v8.toInt64)) = 0 → gk_W (some xs) 8 0 23 [some (.ref 0), some (.ref 1), some (.ref 27), some (.ref 55), some (.int (x4 + 3)), none, none] [] w14 r w') ∧ (¬ ((lg_cmp ((w_l w14 54).getD 0 0) (v8.toInt64)) = 0) → (r = .inl (some (.int 0)) ∧ w' = w14)))))) ∧ (¬ (v13 = v3) → (r = .inl (some (.int 0)) ∧ w' = w14)))))))) :
    gk_W (some xs) 8 0 23 [some (.ref 0), some (.ref 1), some (.ref 27), some (.ref 55), some (.int x4), none, none] [] w r w' := by
  refine gk_W_s 2 (pc1 := 26) (l1 := [some (.ref 0), some (.ref 1), some (.ref 27), some (.ref 55), some (.int x4), none, none]) (st1 := [.ref 0, .int x4]) rfl ?_
  refine gk_W_h (i := .arraylength) 27 rfl rfl rfl rfl ?_
  refine gk_W_b 3 (((Int32.ofNat xs.length) - 3) < x4) (t := 734) (e := 32) (l1 := [some (.ref 0), some (.ref 1), some (.ref 27), some (.ref 55), some (.int x4), none, none]) (st1 := []) rfl (fun hp => absurd hp hn) (fun _ => ?_)
  refine gk_W_s 2 (pc1 := 35) (l1 := [some (.ref 0), some (.ref 1), some (.ref 27), some (.ref 55), some (.int x4), none, none]) (st1 := [.int x4, .ref 0]) rfl ?_
  obtain ⟨hb1, h⟩ := h
  refine gk_W_h (i := .iaload) 36 rfl rfl (h_sl hb1) rfl ?_
  refine gk_W_s 2 (pc1 := 39) (l1 := [some (.ref 0), some (.ref 1), some (.ref 27), some (.ref 55), some (.int x4), none, none]) (st1 := [.int ((xs.getD x4.toNatClampNeg 0) &&& 31)]) rfl ?_
  rw [hx]
  refine gk_W_s 3 (pc1 := 327) (l1 := [some (.ref 0), some (.ref 1), some (.ref 27), some (.ref 55), some (.int x4), none, none]) (st1 := [.ref 55, .ref 1]) rfl ?_
  obtain ⟨v3, w4, rr5, hE2, hS6, h⟩ := h
  refine gk_W_c (i := .invokestatic 78) [.int v3] 330 rfl rfl rfl hE2 rfl rfl ?_
  refine gk_W_s 2 (pc1 := 333) (l1 := [some (.ref 0), some (.ref 1), some (.ref 27), some (.ref 55), some (.int x4), some (.int v3), none]) (st1 := [.ref 27]) rfl ?_
  obtain ⟨v8, w9, rr10, hE7, hS11, h⟩ := h
  refine gk_W_c (i := .invokevirtual 80) [.int v8] 336 rfl rfl (c_v (a := 26) hS6 ly_26 rfl rfl (Nat.le_of_ble_eq_true rfl)) hE7 rfl rfl ?_
  refine gk_W_s 2 (pc1 := 339) (l1 := [some (.ref 0), some (.ref 1), some (.ref 27), some (.ref 55), some (.int x4), some (.int v3), some (.int v8)]) (st1 := [.ref 27]) rfl ?_
  obtain ⟨v13, w14, rr15, hE12, hS16, h⟩ := h
  refine gk_W_c (i := .invokevirtual 49) [.int v13] 342 rfl rfl (c_v (a := 26) hS11 ly_26 rfl rfl (Nat.le_of_ble_eq_true rfl)) hE12 rfl rfl ?_
  refine gk_W_b 2 (v13 = v3) (t := 349) (e := 347) (l1 := [some (.ref 0), some (.ref 1), some (.ref 27), some (.ref 55), some (.int x4), some (.int v3), some (.int v8)]) (st1 := []) rfl (fun hp17 => ?_) (fun hp17 => ?_)
  · have h := h.1 hp17
    refine gk_W_b 2 (¬ v3 = 0) (t := 366) (e := 354) (l1 := [some (.ref 0), some (.ref 1), some (.ref 27), some (.ref 55), some (.int x4), some (.int v3), some (.int v8)]) (st1 := []) rfl (fun hp18 => ?_) (fun hp18 => ?_)
    · have h := h.1 hp18
      refine gk_W_s 3 (pc1 := 23) (l1 := [some (.ref 0), some (.ref 1), some (.ref 27), some (.ref 55), some (.int (x4 + 3)), some (.int v3), some (.int v8)]) (st1 := []) rfl ?_
      exact gk_W_le (gk_le_s (gk_le_s (gk_le_s (gk_le_s (gk_le_s (gk_le_n (gk_le_n (gk_le_0)))))))) h
    · have h := h.2 hp18
      refine gk_W_s 2 (pc1 := 356) (l1 := [some (.ref 0), some (.ref 1), some (.ref 27), some (.ref 55), some (.int x4), some (.int v3), some (.int v8)]) (st1 := [.int 0, .ref 55]) rfl ?_
      refine gk_W_h (i := .laload) 357 rfl rfl (h_ll (a := 54) hS16 ly_54 rfl) rfl ?_
      refine gk_W_b 4 ((lg_cmp ((w_l w14 54).getD 0 0) (v8.toInt64)) = 0) (t := 366) (e := 364) (l1 := [some (.ref 0), some (.ref 1), some (.ref 27), some (.ref 55), some (.int x4), some (.int v3), some (.int v8)]) (st1 := []) rfl (fun hp19 => ?_) (fun hp19 => ?_)
      · have h := h.1 hp19
        refine gk_W_s 3 (pc1 := 23) (l1 := [some (.ref 0), some (.ref 1), some (.ref 27), some (.ref 55), some (.int (x4 + 3)), some (.int v3), some (.int v8)]) (st1 := []) rfl ?_
        exact gk_W_le (gk_le_s (gk_le_s (gk_le_s (gk_le_s (gk_le_s (gk_le_n (gk_le_n (gk_le_0)))))))) h
      · have h := h.2 hp19
        refine gk_W_s 1 (pc1 := 365) (l1 := [some (.ref 0), some (.ref 1), some (.ref 27), some (.ref 55), some (.int x4), some (.int v3), some (.int v8)]) (st1 := [.int 0]) rfl ?_
        obtain ⟨rfl, rfl⟩ := h
        exact gk_W_r (i := .ireturn) rfl rfl rfl
  · have h := h.2 hp17
    refine gk_W_s 1 (pc1 := 348) (l1 := [some (.ref 0), some (.ref 1), some (.ref 27), some (.ref 55), some (.int x4), some (.int v3), some (.int v8)]) (st1 := [.int 0]) rfl ?_
    obtain ⟨rfl, rfl⟩ := h
    exact gk_W_r (i := .ireturn) rfl rfl rfl
set_option maxRecDepth 20000 in
theorem lw_op9 {xs : List Int32} {rr : List gk_S} {w w' : gk_Wd} {r : gk_Res} (hS : gk_Sh rr w) (x4 : Int32) (hn : ¬ ((Int32.ofNat xs.length) - 3) < x4) (hx : (xs.getD x4.toNatClampNeg 0) &&& 31 = 9)
    (h : (gk_out x4 xs.length = false ∧ (∃ (v3 : Int32), ∃ (w4 : gk_Wd), ∃ (rr5 : List gk_S), gk_E 7 100 [.ref 1, .ref 55] w (.inl (some (.int v3))) w4 ∧ gk_Sh rr5 w4 ∧ (∃ (v8 : Int32), ∃ (w9 : gk_Wd), ∃ (rr10 : List gk_S), gk_E 7 176 [.ref 27] w4 (.inl (some (.int v8))) w9 ∧ gk_Sh rr10 w9 ∧ (∃ (v13 : Int32), ∃ (w14 : gk_Wd), ∃ (rr15 : List gk_S), gk_E 7 141 [.ref 27] w9 (.inl (some (.int v13))) w14 ∧ gk_Sh rr15 w14 ∧ ((v13 = v3 → ((¬ v3 = 0 → gk_W (some xs) 8 0 23 [some (.ref 0), some (.ref 1), some (.ref 27), some (.ref 55), some (.int (x4 + 3)), none, none] [] w14 r w') ∧ (¬ ¬ v3 = 0 → (((lg_cmp ((w_l w14 54).getD 0 0) (v8.toInt64)) = 0 → gk_W (some xs) 8 0 23 [some (.ref 0), some (.ref 1), some (.ref 27), some (.ref 55), some (.int (x4 + 3)), none, none] [] w14 r w') ∧ (¬ ((lg_cmp ((w_l w14 54).getD 0 0) (v8.toInt64)) = 0) → (r = .inl (some (.int 0)) ∧ w' = w14)))))) ∧ (¬ (v13 = v3) → (r = .inl (some (.int 0)) ∧ w' = w14)))))))) :
    gk_W (some xs) 8 0 23 [some (.ref 0), some (.ref 1), some (.ref 27), some (.ref 55), some (.int x4), none, none] [] w r w' := by
  refine gk_W_s 2 (pc1 := 26) (l1 := [some (.ref 0), some (.ref 1), some (.ref 27), some (.ref 55), some (.int x4), none, none]) (st1 := [.ref 0, .int x4]) rfl ?_
  refine gk_W_h (i := .arraylength) 27 rfl rfl rfl rfl ?_
  refine gk_W_b 3 (((Int32.ofNat xs.length) - 3) < x4) (t := 734) (e := 32) (l1 := [some (.ref 0), some (.ref 1), some (.ref 27), some (.ref 55), some (.int x4), none, none]) (st1 := []) rfl (fun hp => absurd hp hn) (fun _ => ?_)
  refine gk_W_s 2 (pc1 := 35) (l1 := [some (.ref 0), some (.ref 1), some (.ref 27), some (.ref 55), some (.int x4), none, none]) (st1 := [.int x4, .ref 0]) rfl ?_
  obtain ⟨hb1, h⟩ := h
  refine gk_W_h (i := .iaload) 36 rfl rfl (h_sl hb1) rfl ?_
  refine gk_W_s 2 (pc1 := 39) (l1 := [some (.ref 0), some (.ref 1), some (.ref 27), some (.ref 55), some (.int x4), none, none]) (st1 := [.int ((xs.getD x4.toNatClampNeg 0) &&& 31)]) rfl ?_
  rw [hx]
  refine gk_W_s 3 (pc1 := 371) (l1 := [some (.ref 0), some (.ref 1), some (.ref 27), some (.ref 55), some (.int x4), none, none]) (st1 := [.ref 55, .ref 1]) rfl ?_
  obtain ⟨v3, w4, rr5, hE2, hS6, h⟩ := h
  refine gk_W_c (i := .invokestatic 81) [.int v3] 374 rfl rfl rfl hE2 rfl rfl ?_
  refine gk_W_s 2 (pc1 := 377) (l1 := [some (.ref 0), some (.ref 1), some (.ref 27), some (.ref 55), some (.int x4), some (.int v3), none]) (st1 := [.ref 27]) rfl ?_
  obtain ⟨v8, w9, rr10, hE7, hS11, h⟩ := h
  refine gk_W_c (i := .invokevirtual 83) [.int v8] 380 rfl rfl (c_v (a := 26) hS6 ly_26 rfl rfl (Nat.le_of_ble_eq_true rfl)) hE7 rfl rfl ?_
  refine gk_W_s 2 (pc1 := 383) (l1 := [some (.ref 0), some (.ref 1), some (.ref 27), some (.ref 55), some (.int x4), some (.int v3), some (.int v8)]) (st1 := [.ref 27]) rfl ?_
  obtain ⟨v13, w14, rr15, hE12, hS16, h⟩ := h
  refine gk_W_c (i := .invokevirtual 49) [.int v13] 386 rfl rfl (c_v (a := 26) hS11 ly_26 rfl rfl (Nat.le_of_ble_eq_true rfl)) hE12 rfl rfl ?_
  refine gk_W_b 2 (v13 = v3) (t := 393) (e := 391) (l1 := [some (.ref 0), some (.ref 1), some (.ref 27), some (.ref 55), some (.int x4), some (.int v3), some (.int v8)]) (st1 := []) rfl (fun hp17 => ?_) (fun hp17 => ?_)
  · have h := h.1 hp17
    refine gk_W_b 2 (¬ v3 = 0) (t := 410) (e := 398) (l1 := [some (.ref 0), some (.ref 1), some (.ref 27), some (.ref 55), some (.int x4), some (.int v3), some (.int v8)]) (st1 := []) rfl (fun hp18 => ?_) (fun hp18 => ?_)
    · have h := h.1 hp18
      refine gk_W_s 3 (pc1 := 23) (l1 := [some (.ref 0), some (.ref 1), some (.ref 27), some (.ref 55), some (.int (x4 + 3)), some (.int v3), some (.int v8)]) (st1 := []) rfl ?_
      exact gk_W_le (gk_le_s (gk_le_s (gk_le_s (gk_le_s (gk_le_s (gk_le_n (gk_le_n (gk_le_0)))))))) h
    · have h := h.2 hp18
      refine gk_W_s 2 (pc1 := 400) (l1 := [some (.ref 0), some (.ref 1), some (.ref 27), some (.ref 55), some (.int x4), some (.int v3), some (.int v8)]) (st1 := [.int 0, .ref 55]) rfl ?_
      refine gk_W_h (i := .laload) 401 rfl rfl (h_ll (a := 54) hS16 ly_54 rfl) rfl ?_
      refine gk_W_b 4 ((lg_cmp ((w_l w14 54).getD 0 0) (v8.toInt64)) = 0) (t := 410) (e := 408) (l1 := [some (.ref 0), some (.ref 1), some (.ref 27), some (.ref 55), some (.int x4), some (.int v3), some (.int v8)]) (st1 := []) rfl (fun hp19 => ?_) (fun hp19 => ?_)
      · have h := h.1 hp19
        refine gk_W_s 3 (pc1 := 23) (l1 := [some (.ref 0), some (.ref 1), some (.ref 27), some (.ref 55), some (.int (x4 + 3)), some (.int v3), some (.int v8)]) (st1 := []) rfl ?_
        exact gk_W_le (gk_le_s (gk_le_s (gk_le_s (gk_le_s (gk_le_s (gk_le_n (gk_le_n (gk_le_0)))))))) h
      · have h := h.2 hp19
        refine gk_W_s 1 (pc1 := 409) (l1 := [some (.ref 0), some (.ref 1), some (.ref 27), some (.ref 55), some (.int x4), some (.int v3), some (.int v8)]) (st1 := [.int 0]) rfl ?_
        obtain ⟨rfl, rfl⟩ := h
        exact gk_W_r (i := .ireturn) rfl rfl rfl
  · have h := h.2 hp17
    refine gk_W_s 1 (pc1 := 392) (l1 := [some (.ref 0), some (.ref 1), some (.ref 27), some (.ref 55), some (.int x4), some (.int v3), some (.int v8)]) (st1 := [.int 0]) rfl ?_
    obtain ⟨rfl, rfl⟩ := h
    exact gk_W_r (i := .ireturn) rfl rfl rfl
set_option maxRecDepth 20000 in
theorem lw_op10 {xs : List Int32} {rr : List gk_S} {w w' : gk_Wd} {r : gk_Res} (hS : gk_Sh rr w) (x4 : Int32) (hn : ¬ ((Int32.ofNat xs.length) - 3) < x4) (hx : (xs.getD x4.toNatClampNeg 0) &&& 31 = 10)
    (h : (gk_out x4 xs.length = false ∧ (∃ (v3 : Int32), ∃ (w4 : gk_Wd), ∃ (rr5 : List gk_S), gk_E 7 106 [.ref 1, .ref 55] w (.inl (some (.int v3))) w4 ∧ gk_Sh rr5 w4 ∧ (∃ (v8 : Int32), ∃ (w9 : gk_Wd), ∃ (rr10 : List gk_S), gk_E 7 180 [.ref 27] w4 (.inl (some (.int v8))) w9 ∧ gk_Sh rr10 w9 ∧ (∃ (v13 : Int32), ∃ (w14 : gk_Wd), ∃ (rr15 : List gk_S), gk_E 7 141 [.ref 27] w9 (.inl (some (.int v13))) w14 ∧ gk_Sh rr15 w14 ∧ ((v13 = v3 → ((¬ v3 = 0 → gk_W (some xs) 8 0 23 [some (.ref 0), some (.ref 1), some (.ref 27), some (.ref 55), some (.int (x4 + 3)), none, none] [] w14 r w') ∧ (¬ ¬ v3 = 0 → (((lg_cmp ((w_l w14 54).getD 0 0) (v8.toInt64)) = 0 → gk_W (some xs) 8 0 23 [some (.ref 0), some (.ref 1), some (.ref 27), some (.ref 55), some (.int (x4 + 3)), none, none] [] w14 r w') ∧ (¬ ((lg_cmp ((w_l w14 54).getD 0 0) (v8.toInt64)) = 0) → (r = .inl (some (.int 0)) ∧ w' = w14)))))) ∧ (¬ (v13 = v3) → (r = .inl (some (.int 0)) ∧ w' = w14)))))))) :
    gk_W (some xs) 8 0 23 [some (.ref 0), some (.ref 1), some (.ref 27), some (.ref 55), some (.int x4), none, none] [] w r w' := by
  refine gk_W_s 2 (pc1 := 26) (l1 := [some (.ref 0), some (.ref 1), some (.ref 27), some (.ref 55), some (.int x4), none, none]) (st1 := [.ref 0, .int x4]) rfl ?_
  refine gk_W_h (i := .arraylength) 27 rfl rfl rfl rfl ?_
  refine gk_W_b 3 (((Int32.ofNat xs.length) - 3) < x4) (t := 734) (e := 32) (l1 := [some (.ref 0), some (.ref 1), some (.ref 27), some (.ref 55), some (.int x4), none, none]) (st1 := []) rfl (fun hp => absurd hp hn) (fun _ => ?_)
  refine gk_W_s 2 (pc1 := 35) (l1 := [some (.ref 0), some (.ref 1), some (.ref 27), some (.ref 55), some (.int x4), none, none]) (st1 := [.int x4, .ref 0]) rfl ?_
  obtain ⟨hb1, h⟩ := h
  refine gk_W_h (i := .iaload) 36 rfl rfl (h_sl hb1) rfl ?_
  refine gk_W_s 2 (pc1 := 39) (l1 := [some (.ref 0), some (.ref 1), some (.ref 27), some (.ref 55), some (.int x4), none, none]) (st1 := [.int ((xs.getD x4.toNatClampNeg 0) &&& 31)]) rfl ?_
  rw [hx]
  refine gk_W_s 3 (pc1 := 415) (l1 := [some (.ref 0), some (.ref 1), some (.ref 27), some (.ref 55), some (.int x4), none, none]) (st1 := [.ref 55, .ref 1]) rfl ?_
  obtain ⟨v3, w4, rr5, hE2, hS6, h⟩ := h
  refine gk_W_c (i := .invokestatic 84) [.int v3] 418 rfl rfl rfl hE2 rfl rfl ?_
  refine gk_W_s 2 (pc1 := 421) (l1 := [some (.ref 0), some (.ref 1), some (.ref 27), some (.ref 55), some (.int x4), some (.int v3), none]) (st1 := [.ref 27]) rfl ?_
  obtain ⟨v8, w9, rr10, hE7, hS11, h⟩ := h
  refine gk_W_c (i := .invokevirtual 86) [.int v8] 424 rfl rfl (c_v (a := 26) hS6 ly_26 rfl rfl (Nat.le_of_ble_eq_true rfl)) hE7 rfl rfl ?_
  refine gk_W_s 2 (pc1 := 427) (l1 := [some (.ref 0), some (.ref 1), some (.ref 27), some (.ref 55), some (.int x4), some (.int v3), some (.int v8)]) (st1 := [.ref 27]) rfl ?_
  obtain ⟨v13, w14, rr15, hE12, hS16, h⟩ := h
  refine gk_W_c (i := .invokevirtual 49) [.int v13] 430 rfl rfl (c_v (a := 26) hS11 ly_26 rfl rfl (Nat.le_of_ble_eq_true rfl)) hE12 rfl rfl ?_
  refine gk_W_b 2 (v13 = v3) (t := 437) (e := 435) (l1 := [some (.ref 0), some (.ref 1), some (.ref 27), some (.ref 55), some (.int x4), some (.int v3), some (.int v8)]) (st1 := []) rfl (fun hp17 => ?_) (fun hp17 => ?_)
  · have h := h.1 hp17
    refine gk_W_b 2 (¬ v3 = 0) (t := 454) (e := 442) (l1 := [some (.ref 0), some (.ref 1), some (.ref 27), some (.ref 55), some (.int x4), some (.int v3), some (.int v8)]) (st1 := []) rfl (fun hp18 => ?_) (fun hp18 => ?_)
    · have h := h.1 hp18
      refine gk_W_s 3 (pc1 := 23) (l1 := [some (.ref 0), some (.ref 1), some (.ref 27), some (.ref 55), some (.int (x4 + 3)), some (.int v3), some (.int v8)]) (st1 := []) rfl ?_
      exact gk_W_le (gk_le_s (gk_le_s (gk_le_s (gk_le_s (gk_le_s (gk_le_n (gk_le_n (gk_le_0)))))))) h
    · have h := h.2 hp18
      refine gk_W_s 2 (pc1 := 444) (l1 := [some (.ref 0), some (.ref 1), some (.ref 27), some (.ref 55), some (.int x4), some (.int v3), some (.int v8)]) (st1 := [.int 0, .ref 55]) rfl ?_
      refine gk_W_h (i := .laload) 445 rfl rfl (h_ll (a := 54) hS16 ly_54 rfl) rfl ?_
      refine gk_W_b 4 ((lg_cmp ((w_l w14 54).getD 0 0) (v8.toInt64)) = 0) (t := 454) (e := 452) (l1 := [some (.ref 0), some (.ref 1), some (.ref 27), some (.ref 55), some (.int x4), some (.int v3), some (.int v8)]) (st1 := []) rfl (fun hp19 => ?_) (fun hp19 => ?_)
      · have h := h.1 hp19
        refine gk_W_s 3 (pc1 := 23) (l1 := [some (.ref 0), some (.ref 1), some (.ref 27), some (.ref 55), some (.int (x4 + 3)), some (.int v3), some (.int v8)]) (st1 := []) rfl ?_
        exact gk_W_le (gk_le_s (gk_le_s (gk_le_s (gk_le_s (gk_le_s (gk_le_n (gk_le_n (gk_le_0)))))))) h
      · have h := h.2 hp19
        refine gk_W_s 1 (pc1 := 453) (l1 := [some (.ref 0), some (.ref 1), some (.ref 27), some (.ref 55), some (.int x4), some (.int v3), some (.int v8)]) (st1 := [.int 0]) rfl ?_
        obtain ⟨rfl, rfl⟩ := h
        exact gk_W_r (i := .ireturn) rfl rfl rfl
  · have h := h.2 hp17
    refine gk_W_s 1 (pc1 := 436) (l1 := [some (.ref 0), some (.ref 1), some (.ref 27), some (.ref 55), some (.int x4), some (.int v3), some (.int v8)]) (st1 := [.int 0]) rfl ?_
    obtain ⟨rfl, rfl⟩ := h
    exact gk_W_r (i := .ireturn) rfl rfl rfl
set_option maxRecDepth 20000 in
theorem lw_op11 {xs : List Int32} {rr : List gk_S} {w w' : gk_Wd} {r : gk_Res} (hS : gk_Sh rr w) (x4 : Int32) (hn : ¬ ((Int32.ofNat xs.length) - 3) < x4) (hx : (xs.getD x4.toNatClampNeg 0) &&& 31 = 11)
    (h : (gk_out x4 xs.length = false ∧ (∃ (v3 : Int32), ∃ (w4 : gk_Wd), ∃ (rr5 : List gk_S), gk_E 7 37 [.ref 1] w (.inl (some (.int v3))) w4 ∧ gk_Sh rr5 w4 ∧ (∃ (v8 : Int32), ∃ (w9 : gk_Wd), ∃ (rr10 : List gk_S), gk_E 7 190 [.ref 27] w4 (.inl (some (.int v8))) w9 ∧ gk_Sh rr10 w9 ∧ ((v3 = v8 → gk_W (some xs) 8 0 23 [some (.ref 0), some (.ref 1), some (.ref 27), some (.ref 55), some (.int (x4 + 3)), none, none] [] w9 r w') ∧ (¬ (v3 = v8) → (r = .inl (some (.int 0)) ∧ w' = w9))))))) :
    gk_W (some xs) 8 0 23 [some (.ref 0), some (.ref 1), some (.ref 27), some (.ref 55), some (.int x4), none, none] [] w r w' := by
  refine gk_W_s 2 (pc1 := 26) (l1 := [some (.ref 0), some (.ref 1), some (.ref 27), some (.ref 55), some (.int x4), none, none]) (st1 := [.ref 0, .int x4]) rfl ?_
  refine gk_W_h (i := .arraylength) 27 rfl rfl rfl rfl ?_
  refine gk_W_b 3 (((Int32.ofNat xs.length) - 3) < x4) (t := 734) (e := 32) (l1 := [some (.ref 0), some (.ref 1), some (.ref 27), some (.ref 55), some (.int x4), none, none]) (st1 := []) rfl (fun hp => absurd hp hn) (fun _ => ?_)
  refine gk_W_s 2 (pc1 := 35) (l1 := [some (.ref 0), some (.ref 1), some (.ref 27), some (.ref 55), some (.int x4), none, none]) (st1 := [.int x4, .ref 0]) rfl ?_
  obtain ⟨hb1, h⟩ := h
  refine gk_W_h (i := .iaload) 36 rfl rfl (h_sl hb1) rfl ?_
  refine gk_W_s 2 (pc1 := 39) (l1 := [some (.ref 0), some (.ref 1), some (.ref 27), some (.ref 55), some (.int x4), none, none]) (st1 := [.int ((xs.getD x4.toNatClampNeg 0) &&& 31)]) rfl ?_
  rw [hx]
  refine gk_W_s 2 (pc1 := 458) (l1 := [some (.ref 0), some (.ref 1), some (.ref 27), some (.ref 55), some (.int x4), none, none]) (st1 := [.ref 1]) rfl ?_
  obtain ⟨v3, w4, rr5, hE2, hS6, h⟩ := h
  refine gk_W_c (i := .invokevirtual 87) [.int v3] 461 rfl rfl (c_v (a := 0) hS ly_0 rfl rfl (Nat.le_of_ble_eq_true rfl)) hE2 rfl rfl ?_
  refine gk_W_s 1 (pc1 := 462) (l1 := [some (.ref 0), some (.ref 1), some (.ref 27), some (.ref 55), some (.int x4), none, none]) (st1 := [.ref 27, .int v3]) rfl ?_
  obtain ⟨v8, w9, rr10, hE7, hS11, h⟩ := h
  refine gk_W_c (i := .invokevirtual 90) [.int v8, .int v3] 465 rfl rfl (c_v (a := 26) hS6 ly_26 rfl rfl (Nat.le_of_ble_eq_true rfl)) hE7 rfl rfl ?_
  refine gk_W_b 1 (v3 = v8) (t := 728) (e := 468) (l1 := [some (.ref 0), some (.ref 1), some (.ref 27), some (.ref 55), some (.int x4), none, none]) (st1 := []) rfl (fun hp12 => ?_) (fun hp12 => ?_)
  · have h := h.1 hp12
    refine gk_W_s 2 (pc1 := 23) (l1 := [some (.ref 0), some (.ref 1), some (.ref 27), some (.ref 55), some (.int (x4 + 3)), none, none]) (st1 := []) rfl ?_
    exact h
  · have h := h.2 hp12
    refine gk_W_s 1 (pc1 := 469) (l1 := [some (.ref 0), some (.ref 1), some (.ref 27), some (.ref 55), some (.int x4), none, none]) (st1 := [.int 0]) rfl ?_
    obtain ⟨rfl, rfl⟩ := h
    exact gk_W_r (i := .ireturn) rfl rfl rfl
set_option maxRecDepth 20000 in
theorem lw_op12 {xs : List Int32} {rr : List gk_S} {w w' : gk_Wd} {r : gk_Res} (hS : gk_Sh rr w) (x4 : Int32) (hn : ¬ ((Int32.ofNat xs.length) - 3) < x4) (hx : (xs.getD x4.toNatClampNeg 0) &&& 31 = 12)
    (h : (gk_out x4 xs.length = false ∧ (gk_out (x4 + 1) xs.length = false ∧ (∃ (v4 : Int32), ∃ (w5 : gk_Wd), ∃ (rr6 : List gk_S), gk_E 7 43 [.ref 1, .int (xs.getD (x4 + 1).toNatClampNeg 0)] w (.inl (some (.int v4))) w5 ∧ gk_Sh rr6 w5 ∧ (gk_out (x4 + 1) xs.length = false ∧ (∃ (v10 : Int32), ∃ (w11 : gk_Wd), ∃ (rr12 : List gk_S), gk_E 7 192 [.ref 27, .int (xs.getD (x4 + 1).toNatClampNeg 0)] w5 (.inl (some (.int v10))) w11 ∧ gk_Sh rr12 w11 ∧ ((v4 = v10 → gk_W (some xs) 8 0 23 [some (.ref 0), some (.ref 1), some (.ref 27), some (.ref 55), some (.int (x4 + 3)), none, none] [] w11 r w') ∧ (¬ (v4 = v10) → (r = .inl (some (.int 0)) ∧ w' = w11))))))))) :
    gk_W (some xs) 8 0 23 [some (.ref 0), some (.ref 1), some (.ref 27), some (.ref 55), some (.int x4), none, none] [] w r w' := by
  refine gk_W_s 2 (pc1 := 26) (l1 := [some (.ref 0), some (.ref 1), some (.ref 27), some (.ref 55), some (.int x4), none, none]) (st1 := [.ref 0, .int x4]) rfl ?_
  refine gk_W_h (i := .arraylength) 27 rfl rfl rfl rfl ?_
  refine gk_W_b 3 (((Int32.ofNat xs.length) - 3) < x4) (t := 734) (e := 32) (l1 := [some (.ref 0), some (.ref 1), some (.ref 27), some (.ref 55), some (.int x4), none, none]) (st1 := []) rfl (fun hp => absurd hp hn) (fun _ => ?_)
  refine gk_W_s 2 (pc1 := 35) (l1 := [some (.ref 0), some (.ref 1), some (.ref 27), some (.ref 55), some (.int x4), none, none]) (st1 := [.int x4, .ref 0]) rfl ?_
  obtain ⟨hb1, h⟩ := h
  refine gk_W_h (i := .iaload) 36 rfl rfl (h_sl hb1) rfl ?_
  refine gk_W_s 2 (pc1 := 39) (l1 := [some (.ref 0), some (.ref 1), some (.ref 27), some (.ref 55), some (.int x4), none, none]) (st1 := [.int ((xs.getD x4.toNatClampNeg 0) &&& 31)]) rfl ?_
  rw [hx]
  refine gk_W_s 6 (pc1 := 476) (l1 := [some (.ref 0), some (.ref 1), some (.ref 27), some (.ref 55), some (.int x4), none, none]) (st1 := [.int (x4 + 1), .ref 0, .ref 1]) rfl ?_
  obtain ⟨hb2, h⟩ := h
  refine gk_W_h (i := .iaload) 477 rfl rfl (h_sl hb2) rfl ?_
  obtain ⟨v4, w5, rr6, hE3, hS7, h⟩ := h
  refine gk_W_c (i := .invokevirtual 91) [.int v4] 480 rfl rfl (c_v (a := 0) hS ly_0 rfl rfl (Nat.le_of_ble_eq_true rfl)) hE3 rfl rfl ?_
  refine gk_W_s 5 (pc1 := 486) (l1 := [some (.ref 0), some (.ref 1), some (.ref 27), some (.ref 55), some (.int x4), none, none]) (st1 := [.int (x4 + 1), .ref 0, .ref 27, .int v4]) rfl ?_
  obtain ⟨hb8, h⟩ := h
  refine gk_W_h (i := .iaload) 487 rfl rfl (h_sl hb8) rfl ?_
  obtain ⟨v10, w11, rr12, hE9, hS13, h⟩ := h
  refine gk_W_c (i := .invokevirtual 94) [.int v10, .int v4] 490 rfl rfl (c_v (a := 26) hS7 ly_26 rfl rfl (Nat.le_of_ble_eq_true rfl)) hE9 rfl rfl ?_
  refine gk_W_b 1 (v4 = v10) (t := 728) (e := 493) (l1 := [some (.ref 0), some (.ref 1), some (.ref 27), some (.ref 55), some (.int x4), none, none]) (st1 := []) rfl (fun hp14 => ?_) (fun hp14 => ?_)
  · have h := h.1 hp14
    refine gk_W_s 2 (pc1 := 23) (l1 := [some (.ref 0), some (.ref 1), some (.ref 27), some (.ref 55), some (.int (x4 + 3)), none, none]) (st1 := []) rfl ?_
    exact h
  · have h := h.2 hp14
    refine gk_W_s 1 (pc1 := 494) (l1 := [some (.ref 0), some (.ref 1), some (.ref 27), some (.ref 55), some (.int x4), none, none]) (st1 := [.int 0]) rfl ?_
    obtain ⟨rfl, rfl⟩ := h
    exact gk_W_r (i := .ireturn) rfl rfl rfl
set_option maxRecDepth 20000 in
theorem lw_op13 {xs : List Int32} {rr : List gk_S} {w w' : gk_Wd} {r : gk_Res} (hS : gk_Sh rr w) (x4 : Int32) (hn : ¬ ((Int32.ofNat xs.length) - 3) < x4) (hx : (xs.getD x4.toNatClampNeg 0) &&& 31 = 13)
    (h : (gk_out x4 xs.length = false ∧ (gk_out (x4 + 1) xs.length = false ∧ (∃ (v4 : Int32), ∃ (w5 : gk_Wd), ∃ (rr6 : List gk_S), gk_E 7 51 [.ref 1, .int (((xs.getD (x4 + 1).toNatClampNeg 0).toUInt32 % 65536).toInt32)] w (.inl (some (.int v4))) w5 ∧ gk_Sh rr6 w5 ∧ (gk_out (x4 + 1) xs.length = false ∧ (∃ (v10 : Int32), ∃ (w11 : gk_Wd), ∃ (rr12 : List gk_S), gk_E 7 195 [.ref 27, .int (((xs.getD (x4 + 1).toNatClampNeg 0).toUInt32 % 65536).toInt32)] w5 (.inl (some (.int v10))) w11 ∧ gk_Sh rr12 w11 ∧ ((v4 = v10 → gk_W (some xs) 8 0 23 [some (.ref 0), some (.ref 1), some (.ref 27), some (.ref 55), some (.int (x4 + 3)), none, none] [] w11 r w') ∧ (¬ (v4 = v10) → (r = .inl (some (.int 0)) ∧ w' = w11))))))))) :
    gk_W (some xs) 8 0 23 [some (.ref 0), some (.ref 1), some (.ref 27), some (.ref 55), some (.int x4), none, none] [] w r w' := by
  refine gk_W_s 2 (pc1 := 26) (l1 := [some (.ref 0), some (.ref 1), some (.ref 27), some (.ref 55), some (.int x4), none, none]) (st1 := [.ref 0, .int x4]) rfl ?_
  refine gk_W_h (i := .arraylength) 27 rfl rfl rfl rfl ?_
  refine gk_W_b 3 (((Int32.ofNat xs.length) - 3) < x4) (t := 734) (e := 32) (l1 := [some (.ref 0), some (.ref 1), some (.ref 27), some (.ref 55), some (.int x4), none, none]) (st1 := []) rfl (fun hp => absurd hp hn) (fun _ => ?_)
  refine gk_W_s 2 (pc1 := 35) (l1 := [some (.ref 0), some (.ref 1), some (.ref 27), some (.ref 55), some (.int x4), none, none]) (st1 := [.int x4, .ref 0]) rfl ?_
  obtain ⟨hb1, h⟩ := h
  refine gk_W_h (i := .iaload) 36 rfl rfl (h_sl hb1) rfl ?_
  refine gk_W_s 2 (pc1 := 39) (l1 := [some (.ref 0), some (.ref 1), some (.ref 27), some (.ref 55), some (.int x4), none, none]) (st1 := [.int ((xs.getD x4.toNatClampNeg 0) &&& 31)]) rfl ?_
  rw [hx]
  refine gk_W_s 6 (pc1 := 501) (l1 := [some (.ref 0), some (.ref 1), some (.ref 27), some (.ref 55), some (.int x4), none, none]) (st1 := [.int (x4 + 1), .ref 0, .ref 1]) rfl ?_
  obtain ⟨hb2, h⟩ := h
  refine gk_W_h (i := .iaload) 502 rfl rfl (h_sl hb2) rfl ?_
  refine gk_W_s 1 (pc1 := 503) (l1 := [some (.ref 0), some (.ref 1), some (.ref 27), some (.ref 55), some (.int x4), none, none]) (st1 := [.int (((xs.getD (x4 + 1).toNatClampNeg 0).toUInt32 % 65536).toInt32), .ref 1]) rfl ?_
  obtain ⟨v4, w5, rr6, hE3, hS7, h⟩ := h
  refine gk_W_c (i := .invokevirtual 95) [.int v4] 506 rfl rfl (c_v (a := 0) hS ly_0 rfl rfl (Nat.le_of_ble_eq_true rfl)) hE3 rfl rfl ?_
  refine gk_W_s 5 (pc1 := 512) (l1 := [some (.ref 0), some (.ref 1), some (.ref 27), some (.ref 55), some (.int x4), none, none]) (st1 := [.int (x4 + 1), .ref 0, .ref 27, .int v4]) rfl ?_
  obtain ⟨hb8, h⟩ := h
  refine gk_W_h (i := .iaload) 513 rfl rfl (h_sl hb8) rfl ?_
  refine gk_W_s 1 (pc1 := 514) (l1 := [some (.ref 0), some (.ref 1), some (.ref 27), some (.ref 55), some (.int x4), none, none]) (st1 := [.int (((xs.getD (x4 + 1).toNatClampNeg 0).toUInt32 % 65536).toInt32), .ref 27, .int v4]) rfl ?_
  obtain ⟨v10, w11, rr12, hE9, hS13, h⟩ := h
  refine gk_W_c (i := .invokevirtual 99) [.int v10, .int v4] 517 rfl rfl (c_v (a := 26) hS7 ly_26 rfl rfl (Nat.le_of_ble_eq_true rfl)) hE9 rfl rfl ?_
  refine gk_W_b 1 (v4 = v10) (t := 728) (e := 520) (l1 := [some (.ref 0), some (.ref 1), some (.ref 27), some (.ref 55), some (.int x4), none, none]) (st1 := []) rfl (fun hp14 => ?_) (fun hp14 => ?_)
  · have h := h.1 hp14
    refine gk_W_s 2 (pc1 := 23) (l1 := [some (.ref 0), some (.ref 1), some (.ref 27), some (.ref 55), some (.int (x4 + 3)), none, none]) (st1 := []) rfl ?_
    exact h
  · have h := h.2 hp14
    refine gk_W_s 1 (pc1 := 521) (l1 := [some (.ref 0), some (.ref 1), some (.ref 27), some (.ref 55), some (.int x4), none, none]) (st1 := [.int 0]) rfl ?_
    obtain ⟨rfl, rfl⟩ := h
    exact gk_W_r (i := .ireturn) rfl rfl rfl
set_option maxRecDepth 20000 in
theorem lw_op14 {xs : List Int32} {rr : List gk_S} {w w' : gk_Wd} {r : gk_Res} (hS : gk_Sh rr w) (x4 : Int32) (hn : ¬ ((Int32.ofNat xs.length) - 3) < x4) (hx : (xs.getD x4.toNatClampNeg 0) &&& 31 = 14)
    (h : (gk_out x4 xs.length = false ∧ (gk_out (x4 + 1) xs.length = false ∧ (∃ (v4 : Int32), ∃ (w5 : gk_Wd), ∃ (rr6 : List gk_S), gk_E 7 61 [.ref 1, .int (((xs.getD (x4 + 1).toNatClampNeg 0).toUInt32 % 65536).toInt32)] w (.inl (some (.int v4))) w5 ∧ gk_Sh rr6 w5 ∧ (gk_out (x4 + 1) xs.length = false ∧ (∃ (v10 : Int32), ∃ (w11 : gk_Wd), ∃ (rr12 : List gk_S), gk_E 7 199 [.ref 27, .int (((xs.getD (x4 + 1).toNatClampNeg 0).toUInt32 % 65536).toInt32)] w5 (.inl (some (.int v10))) w11 ∧ gk_Sh rr12 w11 ∧ ((v4 = v10 → gk_W (some xs) 8 0 23 [some (.ref 0), some (.ref 1), some (.ref 27), some (.ref 55), some (.int (x4 + 3)), none, none] [] w11 r w') ∧ (¬ (v4 = v10) → (r = .inl (some (.int 0)) ∧ w' = w11))))))))) :
    gk_W (some xs) 8 0 23 [some (.ref 0), some (.ref 1), some (.ref 27), some (.ref 55), some (.int x4), none, none] [] w r w' := by
  refine gk_W_s 2 (pc1 := 26) (l1 := [some (.ref 0), some (.ref 1), some (.ref 27), some (.ref 55), some (.int x4), none, none]) (st1 := [.ref 0, .int x4]) rfl ?_
  refine gk_W_h (i := .arraylength) 27 rfl rfl rfl rfl ?_
  refine gk_W_b 3 (((Int32.ofNat xs.length) - 3) < x4) (t := 734) (e := 32) (l1 := [some (.ref 0), some (.ref 1), some (.ref 27), some (.ref 55), some (.int x4), none, none]) (st1 := []) rfl (fun hp => absurd hp hn) (fun _ => ?_)
  refine gk_W_s 2 (pc1 := 35) (l1 := [some (.ref 0), some (.ref 1), some (.ref 27), some (.ref 55), some (.int x4), none, none]) (st1 := [.int x4, .ref 0]) rfl ?_
  obtain ⟨hb1, h⟩ := h
  refine gk_W_h (i := .iaload) 36 rfl rfl (h_sl hb1) rfl ?_
  refine gk_W_s 2 (pc1 := 39) (l1 := [some (.ref 0), some (.ref 1), some (.ref 27), some (.ref 55), some (.int x4), none, none]) (st1 := [.int ((xs.getD x4.toNatClampNeg 0) &&& 31)]) rfl ?_
  rw [hx]
  refine gk_W_s 6 (pc1 := 528) (l1 := [some (.ref 0), some (.ref 1), some (.ref 27), some (.ref 55), some (.int x4), none, none]) (st1 := [.int (x4 + 1), .ref 0, .ref 1]) rfl ?_
  obtain ⟨hb2, h⟩ := h
  refine gk_W_h (i := .iaload) 529 rfl rfl (h_sl hb2) rfl ?_
  refine gk_W_s 1 (pc1 := 530) (l1 := [some (.ref 0), some (.ref 1), some (.ref 27), some (.ref 55), some (.int x4), none, none]) (st1 := [.int (((xs.getD (x4 + 1).toNatClampNeg 0).toUInt32 % 65536).toInt32), .ref 1]) rfl ?_
  obtain ⟨v4, w5, rr6, hE3, hS7, h⟩ := h
  refine gk_W_c (i := .invokevirtual 100) [.int v4] 533 rfl rfl (c_v (a := 0) hS ly_0 rfl rfl (Nat.le_of_ble_eq_true rfl)) hE3 rfl rfl ?_
  refine gk_W_s 5 (pc1 := 539) (l1 := [some (.ref 0), some (.ref 1), some (.ref 27), some (.ref 55), some (.int x4), none, none]) (st1 := [.int (x4 + 1), .ref 0, .ref 27, .int v4]) rfl ?_
  obtain ⟨hb8, h⟩ := h
  refine gk_W_h (i := .iaload) 540 rfl rfl (h_sl hb8) rfl ?_
  refine gk_W_s 1 (pc1 := 541) (l1 := [some (.ref 0), some (.ref 1), some (.ref 27), some (.ref 55), some (.int x4), none, none]) (st1 := [.int (((xs.getD (x4 + 1).toNatClampNeg 0).toUInt32 % 65536).toInt32), .ref 27, .int v4]) rfl ?_
  obtain ⟨v10, w11, rr12, hE9, hS13, h⟩ := h
  refine gk_W_c (i := .invokevirtual 103) [.int v10, .int v4] 544 rfl rfl (c_v (a := 26) hS7 ly_26 rfl rfl (Nat.le_of_ble_eq_true rfl)) hE9 rfl rfl ?_
  refine gk_W_b 1 (v4 = v10) (t := 728) (e := 547) (l1 := [some (.ref 0), some (.ref 1), some (.ref 27), some (.ref 55), some (.int x4), none, none]) (st1 := []) rfl (fun hp14 => ?_) (fun hp14 => ?_)
  · have h := h.1 hp14
    refine gk_W_s 2 (pc1 := 23) (l1 := [some (.ref 0), some (.ref 1), some (.ref 27), some (.ref 55), some (.int (x4 + 3)), none, none]) (st1 := []) rfl ?_
    exact h
  · have h := h.2 hp14
    refine gk_W_s 1 (pc1 := 548) (l1 := [some (.ref 0), some (.ref 1), some (.ref 27), some (.ref 55), some (.int x4), none, none]) (st1 := [.int 0]) rfl ?_
    obtain ⟨rfl, rfl⟩ := h
    exact gk_W_r (i := .ireturn) rfl rfl rfl
set_option maxRecDepth 20000 in
theorem lw_op15 {xs : List Int32} {rr : List gk_S} {w w' : gk_Wd} {r : gk_Res} (hS : gk_Sh rr w) (x4 : Int32) (hn : ¬ ((Int32.ofNat xs.length) - 3) < x4) (hx : (xs.getD x4.toNatClampNeg 0) &&& 31 = 15)
    (h : (gk_out x4 xs.length = false ∧ (∃ (v3 : Int32), ∃ (w4 : gk_Wd), ∃ (rr5 : List gk_S), gk_E 7 63 [.ref 1] w (.inl (some (.int v3))) w4 ∧ gk_Sh rr5 w4 ∧ (∃ (v8 : Int32), ∃ (w9 : gk_Wd), ∃ (rr10 : List gk_S), gk_E 7 201 [.ref 27] w4 (.inl (some (.int v8))) w9 ∧ gk_Sh rr10 w9 ∧ ((v3 = v8 → gk_W (some xs) 8 0 23 [some (.ref 0), some (.ref 1), some (.ref 27), some (.ref 55), some (.int (x4 + 3)), none, none] [] w9 r w') ∧ (¬ (v3 = v8) → (r = .inl (some (.int 0)) ∧ w' = w9))))))) :
    gk_W (some xs) 8 0 23 [some (.ref 0), some (.ref 1), some (.ref 27), some (.ref 55), some (.int x4), none, none] [] w r w' := by
  refine gk_W_s 2 (pc1 := 26) (l1 := [some (.ref 0), some (.ref 1), some (.ref 27), some (.ref 55), some (.int x4), none, none]) (st1 := [.ref 0, .int x4]) rfl ?_
  refine gk_W_h (i := .arraylength) 27 rfl rfl rfl rfl ?_
  refine gk_W_b 3 (((Int32.ofNat xs.length) - 3) < x4) (t := 734) (e := 32) (l1 := [some (.ref 0), some (.ref 1), some (.ref 27), some (.ref 55), some (.int x4), none, none]) (st1 := []) rfl (fun hp => absurd hp hn) (fun _ => ?_)
  refine gk_W_s 2 (pc1 := 35) (l1 := [some (.ref 0), some (.ref 1), some (.ref 27), some (.ref 55), some (.int x4), none, none]) (st1 := [.int x4, .ref 0]) rfl ?_
  obtain ⟨hb1, h⟩ := h
  refine gk_W_h (i := .iaload) 36 rfl rfl (h_sl hb1) rfl ?_
  refine gk_W_s 2 (pc1 := 39) (l1 := [some (.ref 0), some (.ref 1), some (.ref 27), some (.ref 55), some (.int x4), none, none]) (st1 := [.int ((xs.getD x4.toNatClampNeg 0) &&& 31)]) rfl ?_
  rw [hx]
  refine gk_W_s 2 (pc1 := 550) (l1 := [some (.ref 0), some (.ref 1), some (.ref 27), some (.ref 55), some (.int x4), none, none]) (st1 := [.ref 1]) rfl ?_
  obtain ⟨v3, w4, rr5, hE2, hS6, h⟩ := h
  refine gk_W_c (i := .invokevirtual 104) [.int v3] 553 rfl rfl (c_v (a := 0) hS ly_0 rfl rfl (Nat.le_of_ble_eq_true rfl)) hE2 rfl rfl ?_
  refine gk_W_s 1 (pc1 := 554) (l1 := [some (.ref 0), some (.ref 1), some (.ref 27), some (.ref 55), some (.int x4), none, none]) (st1 := [.ref 27, .int v3]) rfl ?_
  obtain ⟨v8, w9, rr10, hE7, hS11, h⟩ := h
  refine gk_W_c (i := .invokevirtual 108) [.int v8, .int v3] 557 rfl rfl (c_v (a := 26) hS6 ly_26 rfl rfl (Nat.le_of_ble_eq_true rfl)) hE7 rfl rfl ?_
  refine gk_W_b 1 (v3 = v8) (t := 728) (e := 560) (l1 := [some (.ref 0), some (.ref 1), some (.ref 27), some (.ref 55), some (.int x4), none, none]) (st1 := []) rfl (fun hp12 => ?_) (fun hp12 => ?_)
  · have h := h.1 hp12
    refine gk_W_s 2 (pc1 := 23) (l1 := [some (.ref 0), some (.ref 1), some (.ref 27), some (.ref 55), some (.int (x4 + 3)), none, none]) (st1 := []) rfl ?_
    exact h
  · have h := h.2 hp12
    refine gk_W_s 1 (pc1 := 561) (l1 := [some (.ref 0), some (.ref 1), some (.ref 27), some (.ref 55), some (.int x4), none, none]) (st1 := [.int 0]) rfl ?_
    obtain ⟨rfl, rfl⟩ := h
    exact gk_W_r (i := .ireturn) rfl rfl rfl
set_option maxRecDepth 20000 in
theorem lw_op16 {xs : List Int32} {rr : List gk_S} {w w' : gk_Wd} {r : gk_Res} (hS : gk_Sh rr w) (x4 : Int32) (hn : ¬ ((Int32.ofNat xs.length) - 3) < x4) (hx : (xs.getD x4.toNatClampNeg 0) &&& 31 = 16)
    (h : (gk_out x4 xs.length = false ∧ (gk_out (x4 + 1) xs.length = false ∧ (∃ (v4 : Int32), ∃ (w5 : gk_Wd), ∃ (rr6 : List gk_S), gk_E 7 66 [.ref 1, .int (((xs.getD (x4 + 1).toNatClampNeg 0).toUInt32 % 65536).toInt32)] w (.inl (some (.int v4))) w5 ∧ gk_Sh rr6 w5 ∧ (gk_out (x4 + 1) xs.length = false ∧ (∃ (v10 : Int32), ∃ (w11 : gk_Wd), ∃ (rr12 : List gk_S), gk_E 7 203 [.ref 27, .int (((xs.getD (x4 + 1).toNatClampNeg 0).toUInt32 % 65536).toInt32)] w5 (.inl (some (.int v10))) w11 ∧ gk_Sh rr12 w11 ∧ ((v4 = v10 → gk_W (some xs) 8 0 23 [some (.ref 0), some (.ref 1), some (.ref 27), some (.ref 55), some (.int (x4 + 3)), none, none] [] w11 r w') ∧ (¬ (v4 = v10) → (r = .inl (some (.int 0)) ∧ w' = w11))))))))) :
    gk_W (some xs) 8 0 23 [some (.ref 0), some (.ref 1), some (.ref 27), some (.ref 55), some (.int x4), none, none] [] w r w' := by
  refine gk_W_s 2 (pc1 := 26) (l1 := [some (.ref 0), some (.ref 1), some (.ref 27), some (.ref 55), some (.int x4), none, none]) (st1 := [.ref 0, .int x4]) rfl ?_
  refine gk_W_h (i := .arraylength) 27 rfl rfl rfl rfl ?_
  refine gk_W_b 3 (((Int32.ofNat xs.length) - 3) < x4) (t := 734) (e := 32) (l1 := [some (.ref 0), some (.ref 1), some (.ref 27), some (.ref 55), some (.int x4), none, none]) (st1 := []) rfl (fun hp => absurd hp hn) (fun _ => ?_)
  refine gk_W_s 2 (pc1 := 35) (l1 := [some (.ref 0), some (.ref 1), some (.ref 27), some (.ref 55), some (.int x4), none, none]) (st1 := [.int x4, .ref 0]) rfl ?_
  obtain ⟨hb1, h⟩ := h
  refine gk_W_h (i := .iaload) 36 rfl rfl (h_sl hb1) rfl ?_
  refine gk_W_s 2 (pc1 := 39) (l1 := [some (.ref 0), some (.ref 1), some (.ref 27), some (.ref 55), some (.int x4), none, none]) (st1 := [.int ((xs.getD x4.toNatClampNeg 0) &&& 31)]) rfl ?_
  rw [hx]
  refine gk_W_s 6 (pc1 := 568) (l1 := [some (.ref 0), some (.ref 1), some (.ref 27), some (.ref 55), some (.int x4), none, none]) (st1 := [.int (x4 + 1), .ref 0, .ref 1]) rfl ?_
  obtain ⟨hb2, h⟩ := h
  refine gk_W_h (i := .iaload) 569 rfl rfl (h_sl hb2) rfl ?_
  refine gk_W_s 1 (pc1 := 570) (l1 := [some (.ref 0), some (.ref 1), some (.ref 27), some (.ref 55), some (.int x4), none, none]) (st1 := [.int (((xs.getD (x4 + 1).toNatClampNeg 0).toUInt32 % 65536).toInt32), .ref 1]) rfl ?_
  obtain ⟨v4, w5, rr6, hE3, hS7, h⟩ := h
  refine gk_W_c (i := .invokevirtual 109) [.int v4] 573 rfl rfl (c_v (a := 0) hS ly_0 rfl rfl (Nat.le_of_ble_eq_true rfl)) hE3 rfl rfl ?_
  refine gk_W_s 5 (pc1 := 579) (l1 := [some (.ref 0), some (.ref 1), some (.ref 27), some (.ref 55), some (.int x4), none, none]) (st1 := [.int (x4 + 1), .ref 0, .ref 27, .int v4]) rfl ?_
  obtain ⟨hb8, h⟩ := h
  refine gk_W_h (i := .iaload) 580 rfl rfl (h_sl hb8) rfl ?_
  refine gk_W_s 1 (pc1 := 581) (l1 := [some (.ref 0), some (.ref 1), some (.ref 27), some (.ref 55), some (.int x4), none, none]) (st1 := [.int (((xs.getD (x4 + 1).toNatClampNeg 0).toUInt32 % 65536).toInt32), .ref 27, .int v4]) rfl ?_
  obtain ⟨v10, w11, rr12, hE9, hS13, h⟩ := h
  refine gk_W_c (i := .invokevirtual 112) [.int v10, .int v4] 584 rfl rfl (c_v (a := 26) hS7 ly_26 rfl rfl (Nat.le_of_ble_eq_true rfl)) hE9 rfl rfl ?_
  refine gk_W_b 1 (v4 = v10) (t := 728) (e := 587) (l1 := [some (.ref 0), some (.ref 1), some (.ref 27), some (.ref 55), some (.int x4), none, none]) (st1 := []) rfl (fun hp14 => ?_) (fun hp14 => ?_)
  · have h := h.1 hp14
    refine gk_W_s 2 (pc1 := 23) (l1 := [some (.ref 0), some (.ref 1), some (.ref 27), some (.ref 55), some (.int (x4 + 3)), none, none]) (st1 := []) rfl ?_
    exact h
  · have h := h.2 hp14
    refine gk_W_s 1 (pc1 := 588) (l1 := [some (.ref 0), some (.ref 1), some (.ref 27), some (.ref 55), some (.int x4), none, none]) (st1 := [.int 0]) rfl ?_
    obtain ⟨rfl, rfl⟩ := h
    exact gk_W_r (i := .ireturn) rfl rfl rfl
set_option maxRecDepth 20000 in
theorem lw_op17 {xs : List Int32} {rr : List gk_S} {w w' : gk_Wd} {r : gk_Res} (hS : gk_Sh rr w) (x4 : Int32) (hn : ¬ ((Int32.ofNat xs.length) - 3) < x4) (hx : (xs.getD x4.toNatClampNeg 0) &&& 31 = 17)
    (h : (gk_out x4 xs.length = false ∧ (∃ (v3 : Int32), ∃ (w4 : gk_Wd), ∃ (rr5 : List gk_S), gk_E 7 70 [.ref 1] w (.inl (some (.int v3))) w4 ∧ gk_Sh rr5 w4 ∧ (∃ (v8 : Int32), ∃ (w9 : gk_Wd), ∃ (rr10 : List gk_S), gk_E 7 204 [.ref 27] w4 (.inl (some (.int v8))) w9 ∧ gk_Sh rr10 w9 ∧ ((v3 = v8 → gk_W (some xs) 8 0 23 [some (.ref 0), some (.ref 1), some (.ref 27), some (.ref 55), some (.int (x4 + 3)), none, none] [] w9 r w') ∧ (¬ (v3 = v8) → (r = .inl (some (.int 0)) ∧ w' = w9))))))) :
    gk_W (some xs) 8 0 23 [some (.ref 0), some (.ref 1), some (.ref 27), some (.ref 55), some (.int x4), none, none] [] w r w' := by
  refine gk_W_s 2 (pc1 := 26) (l1 := [some (.ref 0), some (.ref 1), some (.ref 27), some (.ref 55), some (.int x4), none, none]) (st1 := [.ref 0, .int x4]) rfl ?_
  refine gk_W_h (i := .arraylength) 27 rfl rfl rfl rfl ?_
  refine gk_W_b 3 (((Int32.ofNat xs.length) - 3) < x4) (t := 734) (e := 32) (l1 := [some (.ref 0), some (.ref 1), some (.ref 27), some (.ref 55), some (.int x4), none, none]) (st1 := []) rfl (fun hp => absurd hp hn) (fun _ => ?_)
  refine gk_W_s 2 (pc1 := 35) (l1 := [some (.ref 0), some (.ref 1), some (.ref 27), some (.ref 55), some (.int x4), none, none]) (st1 := [.int x4, .ref 0]) rfl ?_
  obtain ⟨hb1, h⟩ := h
  refine gk_W_h (i := .iaload) 36 rfl rfl (h_sl hb1) rfl ?_
  refine gk_W_s 2 (pc1 := 39) (l1 := [some (.ref 0), some (.ref 1), some (.ref 27), some (.ref 55), some (.int x4), none, none]) (st1 := [.int ((xs.getD x4.toNatClampNeg 0) &&& 31)]) rfl ?_
  rw [hx]
  refine gk_W_s 2 (pc1 := 590) (l1 := [some (.ref 0), some (.ref 1), some (.ref 27), some (.ref 55), some (.int x4), none, none]) (st1 := [.ref 1]) rfl ?_
  obtain ⟨v3, w4, rr5, hE2, hS6, h⟩ := h
  refine gk_W_c (i := .invokevirtual 113) [.int v3] 593 rfl rfl (c_v (a := 0) hS ly_0 rfl rfl (Nat.le_of_ble_eq_true rfl)) hE2 rfl rfl ?_
  refine gk_W_s 1 (pc1 := 594) (l1 := [some (.ref 0), some (.ref 1), some (.ref 27), some (.ref 55), some (.int x4), none, none]) (st1 := [.ref 27, .int v3]) rfl ?_
  obtain ⟨v8, w9, rr10, hE7, hS11, h⟩ := h
  refine gk_W_c (i := .invokevirtual 116) [.int v8, .int v3] 597 rfl rfl (c_v (a := 26) hS6 ly_26 rfl rfl (Nat.le_of_ble_eq_true rfl)) hE7 rfl rfl ?_
  refine gk_W_b 1 (v3 = v8) (t := 728) (e := 600) (l1 := [some (.ref 0), some (.ref 1), some (.ref 27), some (.ref 55), some (.int x4), none, none]) (st1 := []) rfl (fun hp12 => ?_) (fun hp12 => ?_)
  · have h := h.1 hp12
    refine gk_W_s 2 (pc1 := 23) (l1 := [some (.ref 0), some (.ref 1), some (.ref 27), some (.ref 55), some (.int (x4 + 3)), none, none]) (st1 := []) rfl ?_
    exact h
  · have h := h.2 hp12
    refine gk_W_s 1 (pc1 := 601) (l1 := [some (.ref 0), some (.ref 1), some (.ref 27), some (.ref 55), some (.int x4), none, none]) (st1 := [.int 0]) rfl ?_
    obtain ⟨rfl, rfl⟩ := h
    exact gk_W_r (i := .ireturn) rfl rfl rfl
set_option maxRecDepth 20000 in
theorem lw_op18 {xs : List Int32} {rr : List gk_S} {w w' : gk_Wd} {r : gk_Res} (hS : gk_Sh rr w) (x4 : Int32) (hn : ¬ ((Int32.ofNat xs.length) - 3) < x4) (hx : (xs.getD x4.toNatClampNeg 0) &&& 31 = 18)
    (h : (gk_out x4 xs.length = false ∧ (∃ (v3 : Int32), ∃ (w4 : gk_Wd), ∃ (rr5 : List gk_S), gk_E 7 72 [.ref 1] w (.inl (some (.int v3))) w4 ∧ gk_Sh rr5 w4 ∧ (∃ (v8 : Int32), ∃ (w9 : gk_Wd), ∃ (rr10 : List gk_S), gk_E 7 205 [.ref 27] w4 (.inl (some (.int v8))) w9 ∧ gk_Sh rr10 w9 ∧ ((v3 = v8 → gk_W (some xs) 8 0 23 [some (.ref 0), some (.ref 1), some (.ref 27), some (.ref 55), some (.int (x4 + 3)), none, none] [] w9 r w') ∧ (¬ (v3 = v8) → (r = .inl (some (.int 0)) ∧ w' = w9))))))) :
    gk_W (some xs) 8 0 23 [some (.ref 0), some (.ref 1), some (.ref 27), some (.ref 55), some (.int x4), none, none] [] w r w' := by
  refine gk_W_s 2 (pc1 := 26) (l1 := [some (.ref 0), some (.ref 1), some (.ref 27), some (.ref 55), some (.int x4), none, none]) (st1 := [.ref 0, .int x4]) rfl ?_
  refine gk_W_h (i := .arraylength) 27 rfl rfl rfl rfl ?_
  refine gk_W_b 3 (((Int32.ofNat xs.length) - 3) < x4) (t := 734) (e := 32) (l1 := [some (.ref 0), some (.ref 1), some (.ref 27), some (.ref 55), some (.int x4), none, none]) (st1 := []) rfl (fun hp => absurd hp hn) (fun _ => ?_)
  refine gk_W_s 2 (pc1 := 35) (l1 := [some (.ref 0), some (.ref 1), some (.ref 27), some (.ref 55), some (.int x4), none, none]) (st1 := [.int x4, .ref 0]) rfl ?_
  obtain ⟨hb1, h⟩ := h
  refine gk_W_h (i := .iaload) 36 rfl rfl (h_sl hb1) rfl ?_
  refine gk_W_s 2 (pc1 := 39) (l1 := [some (.ref 0), some (.ref 1), some (.ref 27), some (.ref 55), some (.int x4), none, none]) (st1 := [.int ((xs.getD x4.toNatClampNeg 0) &&& 31)]) rfl ?_
  rw [hx]
  refine gk_W_s 2 (pc1 := 603) (l1 := [some (.ref 0), some (.ref 1), some (.ref 27), some (.ref 55), some (.int x4), none, none]) (st1 := [.ref 1]) rfl ?_
  obtain ⟨v3, w4, rr5, hE2, hS6, h⟩ := h
  refine gk_W_c (i := .invokevirtual 117) [.int v3] 606 rfl rfl (c_v (a := 0) hS ly_0 rfl rfl (Nat.le_of_ble_eq_true rfl)) hE2 rfl rfl ?_
  refine gk_W_s 1 (pc1 := 607) (l1 := [some (.ref 0), some (.ref 1), some (.ref 27), some (.ref 55), some (.int x4), none, none]) (st1 := [.ref 27, .int v3]) rfl ?_
  obtain ⟨v8, w9, rr10, hE7, hS11, h⟩ := h
  refine gk_W_c (i := .invokevirtual 120) [.int v8, .int v3] 610 rfl rfl (c_v (a := 26) hS6 ly_26 rfl rfl (Nat.le_of_ble_eq_true rfl)) hE7 rfl rfl ?_
  refine gk_W_b 1 (v3 = v8) (t := 728) (e := 613) (l1 := [some (.ref 0), some (.ref 1), some (.ref 27), some (.ref 55), some (.int x4), none, none]) (st1 := []) rfl (fun hp12 => ?_) (fun hp12 => ?_)
  · have h := h.1 hp12
    refine gk_W_s 2 (pc1 := 23) (l1 := [some (.ref 0), some (.ref 1), some (.ref 27), some (.ref 55), some (.int (x4 + 3)), none, none]) (st1 := []) rfl ?_
    exact h
  · have h := h.2 hp12
    refine gk_W_s 1 (pc1 := 614) (l1 := [some (.ref 0), some (.ref 1), some (.ref 27), some (.ref 55), some (.int x4), none, none]) (st1 := [.int 0]) rfl ?_
    obtain ⟨rfl, rfl⟩ := h
    exact gk_W_r (i := .ireturn) rfl rfl rfl
set_option maxRecDepth 20000 in
theorem lw_op19 {xs : List Int32} {rr : List gk_S} {w w' : gk_Wd} {r : gk_Res} (hS : gk_Sh rr w) (x4 : Int32) (hn : ¬ ((Int32.ofNat xs.length) - 3) < x4) (hx : (xs.getD x4.toNatClampNeg 0) &&& 31 = 19)
    (h : (gk_out x4 xs.length = false ∧ (∃ (v3 : Int32), ∃ (w4 : gk_Wd), ∃ (rr5 : List gk_S), gk_E 7 127 [.ref 1, .ref 55] w (.inl (some (.int v3))) w4 ∧ gk_Sh rr5 w4 ∧ (∃ (v8 : Int32), ∃ (w9 : gk_Wd), ∃ (rr10 : List gk_S), gk_E 7 208 [.ref 27] w4 (.inl (some (.int v8))) w9 ∧ gk_Sh rr10 w9 ∧ (∃ (v13 : Int32), ∃ (w14 : gk_Wd), ∃ (rr15 : List gk_S), gk_E 7 141 [.ref 27] w9 (.inl (some (.int v13))) w14 ∧ gk_Sh rr15 w14 ∧ ((v13 = v3 → ((¬ v3 = 0 → gk_W (some xs) 8 0 23 [some (.ref 0), some (.ref 1), some (.ref 27), some (.ref 55), some (.int (x4 + 3)), none, none] [] w14 r w') ∧ (¬ ¬ v3 = 0 → (((lg_cmp ((w_l w14 54).getD 0 0) (v8.toInt64)) = 0 → gk_W (some xs) 8 0 23 [some (.ref 0), some (.ref 1), some (.ref 27), some (.ref 55), some (.int (x4 + 3)), none, none] [] w14 r w') ∧ (¬ ((lg_cmp ((w_l w14 54).getD 0 0) (v8.toInt64)) = 0) → (r = .inl (some (.int 0)) ∧ w' = w14)))))) ∧ (¬ (v13 = v3) → (r = .inl (some (.int 0)) ∧ w' = w14)))))))) :
    gk_W (some xs) 8 0 23 [some (.ref 0), some (.ref 1), some (.ref 27), some (.ref 55), some (.int x4), none, none] [] w r w' := by
  refine gk_W_s 2 (pc1 := 26) (l1 := [some (.ref 0), some (.ref 1), some (.ref 27), some (.ref 55), some (.int x4), none, none]) (st1 := [.ref 0, .int x4]) rfl ?_
  refine gk_W_h (i := .arraylength) 27 rfl rfl rfl rfl ?_
  refine gk_W_b 3 (((Int32.ofNat xs.length) - 3) < x4) (t := 734) (e := 32) (l1 := [some (.ref 0), some (.ref 1), some (.ref 27), some (.ref 55), some (.int x4), none, none]) (st1 := []) rfl (fun hp => absurd hp hn) (fun _ => ?_)
  refine gk_W_s 2 (pc1 := 35) (l1 := [some (.ref 0), some (.ref 1), some (.ref 27), some (.ref 55), some (.int x4), none, none]) (st1 := [.int x4, .ref 0]) rfl ?_
  obtain ⟨hb1, h⟩ := h
  refine gk_W_h (i := .iaload) 36 rfl rfl (h_sl hb1) rfl ?_
  refine gk_W_s 2 (pc1 := 39) (l1 := [some (.ref 0), some (.ref 1), some (.ref 27), some (.ref 55), some (.int x4), none, none]) (st1 := [.int ((xs.getD x4.toNatClampNeg 0) &&& 31)]) rfl ?_
  rw [hx]
  refine gk_W_s 3 (pc1 := 617) (l1 := [some (.ref 0), some (.ref 1), some (.ref 27), some (.ref 55), some (.int x4), none, none]) (st1 := [.ref 55, .ref 1]) rfl ?_
  obtain ⟨v3, w4, rr5, hE2, hS6, h⟩ := h
  refine gk_W_c (i := .invokestatic 121) [.int v3] 620 rfl rfl rfl hE2 rfl rfl ?_
  refine gk_W_s 2 (pc1 := 623) (l1 := [some (.ref 0), some (.ref 1), some (.ref 27), some (.ref 55), some (.int x4), some (.int v3), none]) (st1 := [.ref 27]) rfl ?_
  obtain ⟨v8, w9, rr10, hE7, hS11, h⟩ := h
  refine gk_W_c (i := .invokevirtual 123) [.int v8] 626 rfl rfl (c_v (a := 26) hS6 ly_26 rfl rfl (Nat.le_of_ble_eq_true rfl)) hE7 rfl rfl ?_
  refine gk_W_s 2 (pc1 := 629) (l1 := [some (.ref 0), some (.ref 1), some (.ref 27), some (.ref 55), some (.int x4), some (.int v3), some (.int v8)]) (st1 := [.ref 27]) rfl ?_
  obtain ⟨v13, w14, rr15, hE12, hS16, h⟩ := h
  refine gk_W_c (i := .invokevirtual 49) [.int v13] 632 rfl rfl (c_v (a := 26) hS11 ly_26 rfl rfl (Nat.le_of_ble_eq_true rfl)) hE12 rfl rfl ?_
  refine gk_W_b 2 (v13 = v3) (t := 639) (e := 637) (l1 := [some (.ref 0), some (.ref 1), some (.ref 27), some (.ref 55), some (.int x4), some (.int v3), some (.int v8)]) (st1 := []) rfl (fun hp17 => ?_) (fun hp17 => ?_)
  · have h := h.1 hp17
    refine gk_W_b 2 (¬ v3 = 0) (t := 656) (e := 644) (l1 := [some (.ref 0), some (.ref 1), some (.ref 27), some (.ref 55), some (.int x4), some (.int v3), some (.int v8)]) (st1 := []) rfl (fun hp18 => ?_) (fun hp18 => ?_)
    · have h := h.1 hp18
      refine gk_W_s 3 (pc1 := 23) (l1 := [some (.ref 0), some (.ref 1), some (.ref 27), some (.ref 55), some (.int (x4 + 3)), some (.int v3), some (.int v8)]) (st1 := []) rfl ?_
      exact gk_W_le (gk_le_s (gk_le_s (gk_le_s (gk_le_s (gk_le_s (gk_le_n (gk_le_n (gk_le_0)))))))) h
    · have h := h.2 hp18
      refine gk_W_s 2 (pc1 := 646) (l1 := [some (.ref 0), some (.ref 1), some (.ref 27), some (.ref 55), some (.int x4), some (.int v3), some (.int v8)]) (st1 := [.int 0, .ref 55]) rfl ?_
      refine gk_W_h (i := .laload) 647 rfl rfl (h_ll (a := 54) hS16 ly_54 rfl) rfl ?_
      refine gk_W_b 4 ((lg_cmp ((w_l w14 54).getD 0 0) (v8.toInt64)) = 0) (t := 656) (e := 654) (l1 := [some (.ref 0), some (.ref 1), some (.ref 27), some (.ref 55), some (.int x4), some (.int v3), some (.int v8)]) (st1 := []) rfl (fun hp19 => ?_) (fun hp19 => ?_)
      · have h := h.1 hp19
        refine gk_W_s 3 (pc1 := 23) (l1 := [some (.ref 0), some (.ref 1), some (.ref 27), some (.ref 55), some (.int (x4 + 3)), some (.int v3), some (.int v8)]) (st1 := []) rfl ?_
        exact gk_W_le (gk_le_s (gk_le_s (gk_le_s (gk_le_s (gk_le_s (gk_le_n (gk_le_n (gk_le_0)))))))) h
      · have h := h.2 hp19
        refine gk_W_s 1 (pc1 := 655) (l1 := [some (.ref 0), some (.ref 1), some (.ref 27), some (.ref 55), some (.int x4), some (.int v3), some (.int v8)]) (st1 := [.int 0]) rfl ?_
        obtain ⟨rfl, rfl⟩ := h
        exact gk_W_r (i := .ireturn) rfl rfl rfl
  · have h := h.2 hp17
    refine gk_W_s 1 (pc1 := 638) (l1 := [some (.ref 0), some (.ref 1), some (.ref 27), some (.ref 55), some (.int x4), some (.int v3), some (.int v8)]) (st1 := [.int 0]) rfl ?_
    obtain ⟨rfl, rfl⟩ := h
    exact gk_W_r (i := .ireturn) rfl rfl rfl
set_option maxRecDepth 20000 in
theorem lw_op20 {xs : List Int32} {rr : List gk_S} {w w' : gk_Wd} {r : gk_Res} (hS : gk_Sh rr w) (x4 : Int32) (hn : ¬ ((Int32.ofNat xs.length) - 3) < x4) (hx : (xs.getD x4.toNatClampNeg 0) &&& 31 = 20)
    (h : (gk_out x4 xs.length = false ∧ (∃ (v3 : Int32), ∃ (w4 : gk_Wd), ∃ (rr5 : List gk_S), gk_E 7 135 [.ref 1, .ref 55] w (.inl (some (.int v3))) w4 ∧ gk_Sh rr5 w4 ∧ (∃ (v8 : Int32), ∃ (w9 : gk_Wd), ∃ (rr10 : List gk_S), gk_E 7 212 [.ref 27] w4 (.inl (some (.int v8))) w9 ∧ gk_Sh rr10 w9 ∧ (∃ (v13 : Int32), ∃ (w14 : gk_Wd), ∃ (rr15 : List gk_S), gk_E 7 141 [.ref 27] w9 (.inl (some (.int v13))) w14 ∧ gk_Sh rr15 w14 ∧ ((v13 = v3 → ((¬ v3 = 0 → gk_W (some xs) 8 0 23 [some (.ref 0), some (.ref 1), some (.ref 27), some (.ref 55), some (.int (x4 + 3)), none, none] [] w14 r w') ∧ (¬ ¬ v3 = 0 → (((lg_cmp ((w_l w14 54).getD 0 0) (v8.toInt64)) = 0 → gk_W (some xs) 8 0 23 [some (.ref 0), some (.ref 1), some (.ref 27), some (.ref 55), some (.int (x4 + 3)), none, none] [] w14 r w') ∧ (¬ ((lg_cmp ((w_l w14 54).getD 0 0) (v8.toInt64)) = 0) → (r = .inl (some (.int 0)) ∧ w' = w14)))))) ∧ (¬ (v13 = v3) → (r = .inl (some (.int 0)) ∧ w' = w14)))))))) :
    gk_W (some xs) 8 0 23 [some (.ref 0), some (.ref 1), some (.ref 27), some (.ref 55), some (.int x4), none, none] [] w r w' := by
  refine gk_W_s 2 (pc1 := 26) (l1 := [some (.ref 0), some (.ref 1), some (.ref 27), some (.ref 55), some (.int x4), none, none]) (st1 := [.ref 0, .int x4]) rfl ?_
  refine gk_W_h (i := .arraylength) 27 rfl rfl rfl rfl ?_
  refine gk_W_b 3 (((Int32.ofNat xs.length) - 3) < x4) (t := 734) (e := 32) (l1 := [some (.ref 0), some (.ref 1), some (.ref 27), some (.ref 55), some (.int x4), none, none]) (st1 := []) rfl (fun hp => absurd hp hn) (fun _ => ?_)
  refine gk_W_s 2 (pc1 := 35) (l1 := [some (.ref 0), some (.ref 1), some (.ref 27), some (.ref 55), some (.int x4), none, none]) (st1 := [.int x4, .ref 0]) rfl ?_
  obtain ⟨hb1, h⟩ := h
  refine gk_W_h (i := .iaload) 36 rfl rfl (h_sl hb1) rfl ?_
  refine gk_W_s 2 (pc1 := 39) (l1 := [some (.ref 0), some (.ref 1), some (.ref 27), some (.ref 55), some (.int x4), none, none]) (st1 := [.int ((xs.getD x4.toNatClampNeg 0) &&& 31)]) rfl ?_
  rw [hx]
  refine gk_W_s 3 (pc1 := 661) (l1 := [some (.ref 0), some (.ref 1), some (.ref 27), some (.ref 55), some (.int x4), none, none]) (st1 := [.ref 55, .ref 1]) rfl ?_
  obtain ⟨v3, w4, rr5, hE2, hS6, h⟩ := h
  refine gk_W_c (i := .invokestatic 124) [.int v3] 664 rfl rfl rfl hE2 rfl rfl ?_
  refine gk_W_s 2 (pc1 := 667) (l1 := [some (.ref 0), some (.ref 1), some (.ref 27), some (.ref 55), some (.int x4), some (.int v3), none]) (st1 := [.ref 27]) rfl ?_
  obtain ⟨v8, w9, rr10, hE7, hS11, h⟩ := h
  refine gk_W_c (i := .invokevirtual 126) [.int v8] 670 rfl rfl (c_v (a := 26) hS6 ly_26 rfl rfl (Nat.le_of_ble_eq_true rfl)) hE7 rfl rfl ?_
  refine gk_W_s 2 (pc1 := 673) (l1 := [some (.ref 0), some (.ref 1), some (.ref 27), some (.ref 55), some (.int x4), some (.int v3), some (.int v8)]) (st1 := [.ref 27]) rfl ?_
  obtain ⟨v13, w14, rr15, hE12, hS16, h⟩ := h
  refine gk_W_c (i := .invokevirtual 49) [.int v13] 676 rfl rfl (c_v (a := 26) hS11 ly_26 rfl rfl (Nat.le_of_ble_eq_true rfl)) hE12 rfl rfl ?_
  refine gk_W_b 2 (v13 = v3) (t := 683) (e := 681) (l1 := [some (.ref 0), some (.ref 1), some (.ref 27), some (.ref 55), some (.int x4), some (.int v3), some (.int v8)]) (st1 := []) rfl (fun hp17 => ?_) (fun hp17 => ?_)
  · have h := h.1 hp17
    refine gk_W_b 2 (¬ v3 = 0) (t := 700) (e := 688) (l1 := [some (.ref 0), some (.ref 1), some (.ref 27), some (.ref 55), some (.int x4), some (.int v3), some (.int v8)]) (st1 := []) rfl (fun hp18 => ?_) (fun hp18 => ?_)
    · have h := h.1 hp18
      refine gk_W_s 3 (pc1 := 23) (l1 := [some (.ref 0), some (.ref 1), some (.ref 27), some (.ref 55), some (.int (x4 + 3)), some (.int v3), some (.int v8)]) (st1 := []) rfl ?_
      exact gk_W_le (gk_le_s (gk_le_s (gk_le_s (gk_le_s (gk_le_s (gk_le_n (gk_le_n (gk_le_0)))))))) h
    · have h := h.2 hp18
      refine gk_W_s 2 (pc1 := 690) (l1 := [some (.ref 0), some (.ref 1), some (.ref 27), some (.ref 55), some (.int x4), some (.int v3), some (.int v8)]) (st1 := [.int 0, .ref 55]) rfl ?_
      refine gk_W_h (i := .laload) 691 rfl rfl (h_ll (a := 54) hS16 ly_54 rfl) rfl ?_
      refine gk_W_b 4 ((lg_cmp ((w_l w14 54).getD 0 0) (v8.toInt64)) = 0) (t := 700) (e := 698) (l1 := [some (.ref 0), some (.ref 1), some (.ref 27), some (.ref 55), some (.int x4), some (.int v3), some (.int v8)]) (st1 := []) rfl (fun hp19 => ?_) (fun hp19 => ?_)
      · have h := h.1 hp19
        refine gk_W_s 3 (pc1 := 23) (l1 := [some (.ref 0), some (.ref 1), some (.ref 27), some (.ref 55), some (.int (x4 + 3)), some (.int v3), some (.int v8)]) (st1 := []) rfl ?_
        exact gk_W_le (gk_le_s (gk_le_s (gk_le_s (gk_le_s (gk_le_s (gk_le_n (gk_le_n (gk_le_0)))))))) h
      · have h := h.2 hp19
        refine gk_W_s 1 (pc1 := 699) (l1 := [some (.ref 0), some (.ref 1), some (.ref 27), some (.ref 55), some (.int x4), some (.int v3), some (.int v8)]) (st1 := [.int 0]) rfl ?_
        obtain ⟨rfl, rfl⟩ := h
        exact gk_W_r (i := .ireturn) rfl rfl rfl
  · have h := h.2 hp17
    refine gk_W_s 1 (pc1 := 682) (l1 := [some (.ref 0), some (.ref 1), some (.ref 27), some (.ref 55), some (.int x4), some (.int v3), some (.int v8)]) (st1 := [.int 0]) rfl ?_
    obtain ⟨rfl, rfl⟩ := h
    exact gk_W_r (i := .ireturn) rfl rfl rfl
set_option maxRecDepth 20000 in
theorem lw_op21 {xs : List Int32} {rr : List gk_S} {w w' : gk_Wd} {r : gk_Res} (hS : gk_Sh rr w) (x4 : Int32) (hn : ¬ ((Int32.ofNat xs.length) - 3) < x4) (hx : (xs.getD x4.toNatClampNeg 0) &&& 31 = 21)
    (h : (gk_out x4 xs.length = false ∧ (gk_out (x4 + 1) xs.length = false ∧ (∃ (v4 : Int32), ∃ (w5 : gk_Wd), ∃ (rr6 : List gk_S), gk_E 7 80 [.ref 1, .int (xs.getD (x4 + 1).toNatClampNeg 0)] w (.inl (some (.int v4))) w5 ∧ gk_Sh rr6 w5 ∧ (gk_out (x4 + 1) xs.length = false ∧ (∃ (v10 : Int32), ∃ (w11 : gk_Wd), ∃ (rr12 : List gk_S), gk_E 7 215 [.ref 27, .int (xs.getD (x4 + 1).toNatClampNeg 0)] w5 (.inl (some (.int v10))) w11 ∧ gk_Sh rr12 w11 ∧ ((v4 = v10 → gk_W (some xs) 8 0 23 [some (.ref 0), some (.ref 1), some (.ref 27), some (.ref 55), some (.int (x4 + 3)), none, none] [] w11 r w') ∧ (¬ (v4 = v10) → (r = .inl (some (.int 0)) ∧ w' = w11))))))))) :
    gk_W (some xs) 8 0 23 [some (.ref 0), some (.ref 1), some (.ref 27), some (.ref 55), some (.int x4), none, none] [] w r w' := by
  refine gk_W_s 2 (pc1 := 26) (l1 := [some (.ref 0), some (.ref 1), some (.ref 27), some (.ref 55), some (.int x4), none, none]) (st1 := [.ref 0, .int x4]) rfl ?_
  refine gk_W_h (i := .arraylength) 27 rfl rfl rfl rfl ?_
  refine gk_W_b 3 (((Int32.ofNat xs.length) - 3) < x4) (t := 734) (e := 32) (l1 := [some (.ref 0), some (.ref 1), some (.ref 27), some (.ref 55), some (.int x4), none, none]) (st1 := []) rfl (fun hp => absurd hp hn) (fun _ => ?_)
  refine gk_W_s 2 (pc1 := 35) (l1 := [some (.ref 0), some (.ref 1), some (.ref 27), some (.ref 55), some (.int x4), none, none]) (st1 := [.int x4, .ref 0]) rfl ?_
  obtain ⟨hb1, h⟩ := h
  refine gk_W_h (i := .iaload) 36 rfl rfl (h_sl hb1) rfl ?_
  refine gk_W_s 2 (pc1 := 39) (l1 := [some (.ref 0), some (.ref 1), some (.ref 27), some (.ref 55), some (.int x4), none, none]) (st1 := [.int ((xs.getD x4.toNatClampNeg 0) &&& 31)]) rfl ?_
  rw [hx]
  refine gk_W_s 6 (pc1 := 709) (l1 := [some (.ref 0), some (.ref 1), some (.ref 27), some (.ref 55), some (.int x4), none, none]) (st1 := [.int (x4 + 1), .ref 0, .ref 1]) rfl ?_
  obtain ⟨hb2, h⟩ := h
  refine gk_W_h (i := .iaload) 710 rfl rfl (h_sl hb2) rfl ?_
  obtain ⟨v4, w5, rr6, hE3, hS7, h⟩ := h
  refine gk_W_c (i := .invokevirtual 127) [.int v4] 713 rfl rfl (c_v (a := 0) hS ly_0 rfl rfl (Nat.le_of_ble_eq_true rfl)) hE3 rfl rfl ?_
  refine gk_W_s 5 (pc1 := 719) (l1 := [some (.ref 0), some (.ref 1), some (.ref 27), some (.ref 55), some (.int x4), none, none]) (st1 := [.int (x4 + 1), .ref 0, .ref 27, .int v4]) rfl ?_
  obtain ⟨hb8, h⟩ := h
  refine gk_W_h (i := .iaload) 720 rfl rfl (h_sl hb8) rfl ?_
  obtain ⟨v10, w11, rr12, hE9, hS13, h⟩ := h
  refine gk_W_c (i := .invokevirtual 131) [.int v10, .int v4] 723 rfl rfl (c_v (a := 26) hS7 ly_26 rfl rfl (Nat.le_of_ble_eq_true rfl)) hE9 rfl rfl ?_
  refine gk_W_b 1 (v4 = v10) (t := 728) (e := 726) (l1 := [some (.ref 0), some (.ref 1), some (.ref 27), some (.ref 55), some (.int x4), none, none]) (st1 := []) rfl (fun hp14 => ?_) (fun hp14 => ?_)
  · have h := h.1 hp14
    refine gk_W_s 2 (pc1 := 23) (l1 := [some (.ref 0), some (.ref 1), some (.ref 27), some (.ref 55), some (.int (x4 + 3)), none, none]) (st1 := []) rfl ?_
    exact h
  · have h := h.2 hp14
    refine gk_W_s 1 (pc1 := 727) (l1 := [some (.ref 0), some (.ref 1), some (.ref 27), some (.ref 55), some (.int x4), none, none]) (st1 := [.int 0]) rfl ?_
    obtain ⟨rfl, rfl⟩ := h
    exact gk_W_r (i := .ireturn) rfl rfl rfl
set_option maxRecDepth 20000 in
theorem lw_op22 {xs : List Int32} {rr : List gk_S} {w w' : gk_Wd} {r : gk_Res} (hS : gk_Sh rr w) (x4 : Int32) (hn : ¬ ((Int32.ofNat xs.length) - 3) < x4) (hx : (xs.getD x4.toNatClampNeg 0) &&& 31 = 22)
    (h : (gk_out x4 xs.length = false ∧ gk_W (some xs) 8 0 23 [some (.ref 0), some (.ref 1), some (.ref 27), some (.ref 55), some (.int (x4 + 3)), none, none] [] w r w')) :
    gk_W (some xs) 8 0 23 [some (.ref 0), some (.ref 1), some (.ref 27), some (.ref 55), some (.int x4), none, none] [] w r w' := by
  refine gk_W_s 2 (pc1 := 26) (l1 := [some (.ref 0), some (.ref 1), some (.ref 27), some (.ref 55), some (.int x4), none, none]) (st1 := [.ref 0, .int x4]) rfl ?_
  refine gk_W_h (i := .arraylength) 27 rfl rfl rfl rfl ?_
  refine gk_W_b 3 (((Int32.ofNat xs.length) - 3) < x4) (t := 734) (e := 32) (l1 := [some (.ref 0), some (.ref 1), some (.ref 27), some (.ref 55), some (.int x4), none, none]) (st1 := []) rfl (fun hp => absurd hp hn) (fun _ => ?_)
  refine gk_W_s 2 (pc1 := 35) (l1 := [some (.ref 0), some (.ref 1), some (.ref 27), some (.ref 55), some (.int x4), none, none]) (st1 := [.int x4, .ref 0]) rfl ?_
  obtain ⟨hb1, h⟩ := h
  refine gk_W_h (i := .iaload) 36 rfl rfl (h_sl hb1) rfl ?_
  refine gk_W_s 2 (pc1 := 39) (l1 := [some (.ref 0), some (.ref 1), some (.ref 27), some (.ref 55), some (.int x4), none, none]) (st1 := [.int ((xs.getD x4.toNatClampNeg 0) &&& 31)]) rfl ?_
  rw [hx]
  refine gk_W_s 3 (pc1 := 23) (l1 := [some (.ref 0), some (.ref 1), some (.ref 27), some (.ref 55), some (.int (x4 + 3)), none, none]) (st1 := []) rfl ?_
  exact h
set_option maxRecDepth 20000 in
theorem lw_op23 {xs : List Int32} {rr : List gk_S} {w w' : gk_Wd} {r : gk_Res} (hS : gk_Sh rr w) (x4 : Int32) (hn : ¬ ((Int32.ofNat xs.length) - 3) < x4) (hx : (xs.getD x4.toNatClampNeg 0) &&& 31 = 23)
    (h : (gk_out x4 xs.length = false ∧ gk_W (some xs) 8 0 23 [some (.ref 0), some (.ref 1), some (.ref 27), some (.ref 55), some (.int (x4 + 3)), none, none] [] w r w')) :
    gk_W (some xs) 8 0 23 [some (.ref 0), some (.ref 1), some (.ref 27), some (.ref 55), some (.int x4), none, none] [] w r w' := by
  refine gk_W_s 2 (pc1 := 26) (l1 := [some (.ref 0), some (.ref 1), some (.ref 27), some (.ref 55), some (.int x4), none, none]) (st1 := [.ref 0, .int x4]) rfl ?_
  refine gk_W_h (i := .arraylength) 27 rfl rfl rfl rfl ?_
  refine gk_W_b 3 (((Int32.ofNat xs.length) - 3) < x4) (t := 734) (e := 32) (l1 := [some (.ref 0), some (.ref 1), some (.ref 27), some (.ref 55), some (.int x4), none, none]) (st1 := []) rfl (fun hp => absurd hp hn) (fun _ => ?_)
  refine gk_W_s 2 (pc1 := 35) (l1 := [some (.ref 0), some (.ref 1), some (.ref 27), some (.ref 55), some (.int x4), none, none]) (st1 := [.int x4, .ref 0]) rfl ?_
  obtain ⟨hb1, h⟩ := h
  refine gk_W_h (i := .iaload) 36 rfl rfl (h_sl hb1) rfl ?_
  refine gk_W_s 2 (pc1 := 39) (l1 := [some (.ref 0), some (.ref 1), some (.ref 27), some (.ref 55), some (.int x4), none, none]) (st1 := [.int ((xs.getD x4.toNatClampNeg 0) &&& 31)]) rfl ?_
  rw [hx]
  refine gk_W_s 3 (pc1 := 23) (l1 := [some (.ref 0), some (.ref 1), some (.ref 27), some (.ref 55), some (.int (x4 + 3)), none, none]) (st1 := []) rfl ?_
  exact h
set_option maxRecDepth 20000 in
theorem lw_op24 {xs : List Int32} {rr : List gk_S} {w w' : gk_Wd} {r : gk_Res} (hS : gk_Sh rr w) (x4 : Int32) (hn : ¬ ((Int32.ofNat xs.length) - 3) < x4) (hx : (xs.getD x4.toNatClampNeg 0) &&& 31 = 24)
    (h : (gk_out x4 xs.length = false ∧ gk_W (some xs) 8 0 23 [some (.ref 0), some (.ref 1), some (.ref 27), some (.ref 55), some (.int (x4 + 3)), none, none] [] w r w')) :
    gk_W (some xs) 8 0 23 [some (.ref 0), some (.ref 1), some (.ref 27), some (.ref 55), some (.int x4), none, none] [] w r w' := by
  refine gk_W_s 2 (pc1 := 26) (l1 := [some (.ref 0), some (.ref 1), some (.ref 27), some (.ref 55), some (.int x4), none, none]) (st1 := [.ref 0, .int x4]) rfl ?_
  refine gk_W_h (i := .arraylength) 27 rfl rfl rfl rfl ?_
  refine gk_W_b 3 (((Int32.ofNat xs.length) - 3) < x4) (t := 734) (e := 32) (l1 := [some (.ref 0), some (.ref 1), some (.ref 27), some (.ref 55), some (.int x4), none, none]) (st1 := []) rfl (fun hp => absurd hp hn) (fun _ => ?_)
  refine gk_W_s 2 (pc1 := 35) (l1 := [some (.ref 0), some (.ref 1), some (.ref 27), some (.ref 55), some (.int x4), none, none]) (st1 := [.int x4, .ref 0]) rfl ?_
  obtain ⟨hb1, h⟩ := h
  refine gk_W_h (i := .iaload) 36 rfl rfl (h_sl hb1) rfl ?_
  refine gk_W_s 2 (pc1 := 39) (l1 := [some (.ref 0), some (.ref 1), some (.ref 27), some (.ref 55), some (.int x4), none, none]) (st1 := [.int ((xs.getD x4.toNatClampNeg 0) &&& 31)]) rfl ?_
  rw [hx]
  refine gk_W_s 3 (pc1 := 23) (l1 := [some (.ref 0), some (.ref 1), some (.ref 27), some (.ref 55), some (.int (x4 + 3)), none, none]) (st1 := []) rfl ?_
  exact h
set_option maxRecDepth 20000 in
theorem lw_op25 {xs : List Int32} {rr : List gk_S} {w w' : gk_Wd} {r : gk_Res} (hS : gk_Sh rr w) (x4 : Int32) (hn : ¬ ((Int32.ofNat xs.length) - 3) < x4) (hx : (xs.getD x4.toNatClampNeg 0) &&& 31 = 25)
    (h : (gk_out x4 xs.length = false ∧ gk_W (some xs) 8 0 23 [some (.ref 0), some (.ref 1), some (.ref 27), some (.ref 55), some (.int (x4 + 3)), none, none] [] w r w')) :
    gk_W (some xs) 8 0 23 [some (.ref 0), some (.ref 1), some (.ref 27), some (.ref 55), some (.int x4), none, none] [] w r w' := by
  refine gk_W_s 2 (pc1 := 26) (l1 := [some (.ref 0), some (.ref 1), some (.ref 27), some (.ref 55), some (.int x4), none, none]) (st1 := [.ref 0, .int x4]) rfl ?_
  refine gk_W_h (i := .arraylength) 27 rfl rfl rfl rfl ?_
  refine gk_W_b 3 (((Int32.ofNat xs.length) - 3) < x4) (t := 734) (e := 32) (l1 := [some (.ref 0), some (.ref 1), some (.ref 27), some (.ref 55), some (.int x4), none, none]) (st1 := []) rfl (fun hp => absurd hp hn) (fun _ => ?_)
  refine gk_W_s 2 (pc1 := 35) (l1 := [some (.ref 0), some (.ref 1), some (.ref 27), some (.ref 55), some (.int x4), none, none]) (st1 := [.int x4, .ref 0]) rfl ?_
  obtain ⟨hb1, h⟩ := h
  refine gk_W_h (i := .iaload) 36 rfl rfl (h_sl hb1) rfl ?_
  refine gk_W_s 2 (pc1 := 39) (l1 := [some (.ref 0), some (.ref 1), some (.ref 27), some (.ref 55), some (.int x4), none, none]) (st1 := [.int ((xs.getD x4.toNatClampNeg 0) &&& 31)]) rfl ?_
  rw [hx]
  refine gk_W_s 3 (pc1 := 23) (l1 := [some (.ref 0), some (.ref 1), some (.ref 27), some (.ref 55), some (.int (x4 + 3)), none, none]) (st1 := []) rfl ?_
  exact h
set_option maxRecDepth 20000 in
theorem lw_op26 {xs : List Int32} {rr : List gk_S} {w w' : gk_Wd} {r : gk_Res} (hS : gk_Sh rr w) (x4 : Int32) (hn : ¬ ((Int32.ofNat xs.length) - 3) < x4) (hx : (xs.getD x4.toNatClampNeg 0) &&& 31 = 26)
    (h : (gk_out x4 xs.length = false ∧ gk_W (some xs) 8 0 23 [some (.ref 0), some (.ref 1), some (.ref 27), some (.ref 55), some (.int (x4 + 3)), none, none] [] w r w')) :
    gk_W (some xs) 8 0 23 [some (.ref 0), some (.ref 1), some (.ref 27), some (.ref 55), some (.int x4), none, none] [] w r w' := by
  refine gk_W_s 2 (pc1 := 26) (l1 := [some (.ref 0), some (.ref 1), some (.ref 27), some (.ref 55), some (.int x4), none, none]) (st1 := [.ref 0, .int x4]) rfl ?_
  refine gk_W_h (i := .arraylength) 27 rfl rfl rfl rfl ?_
  refine gk_W_b 3 (((Int32.ofNat xs.length) - 3) < x4) (t := 734) (e := 32) (l1 := [some (.ref 0), some (.ref 1), some (.ref 27), some (.ref 55), some (.int x4), none, none]) (st1 := []) rfl (fun hp => absurd hp hn) (fun _ => ?_)
  refine gk_W_s 2 (pc1 := 35) (l1 := [some (.ref 0), some (.ref 1), some (.ref 27), some (.ref 55), some (.int x4), none, none]) (st1 := [.int x4, .ref 0]) rfl ?_
  obtain ⟨hb1, h⟩ := h
  refine gk_W_h (i := .iaload) 36 rfl rfl (h_sl hb1) rfl ?_
  refine gk_W_s 2 (pc1 := 39) (l1 := [some (.ref 0), some (.ref 1), some (.ref 27), some (.ref 55), some (.int x4), none, none]) (st1 := [.int ((xs.getD x4.toNatClampNeg 0) &&& 31)]) rfl ?_
  rw [hx]
  refine gk_W_s 3 (pc1 := 23) (l1 := [some (.ref 0), some (.ref 1), some (.ref 27), some (.ref 55), some (.int (x4 + 3)), none, none]) (st1 := []) rfl ?_
  exact h
set_option maxRecDepth 20000 in
theorem lw_op27 {xs : List Int32} {rr : List gk_S} {w w' : gk_Wd} {r : gk_Res} (hS : gk_Sh rr w) (x4 : Int32) (hn : ¬ ((Int32.ofNat xs.length) - 3) < x4) (hx : (xs.getD x4.toNatClampNeg 0) &&& 31 = 27)
    (h : (gk_out x4 xs.length = false ∧ gk_W (some xs) 8 0 23 [some (.ref 0), some (.ref 1), some (.ref 27), some (.ref 55), some (.int (x4 + 3)), none, none] [] w r w')) :
    gk_W (some xs) 8 0 23 [some (.ref 0), some (.ref 1), some (.ref 27), some (.ref 55), some (.int x4), none, none] [] w r w' := by
  refine gk_W_s 2 (pc1 := 26) (l1 := [some (.ref 0), some (.ref 1), some (.ref 27), some (.ref 55), some (.int x4), none, none]) (st1 := [.ref 0, .int x4]) rfl ?_
  refine gk_W_h (i := .arraylength) 27 rfl rfl rfl rfl ?_
  refine gk_W_b 3 (((Int32.ofNat xs.length) - 3) < x4) (t := 734) (e := 32) (l1 := [some (.ref 0), some (.ref 1), some (.ref 27), some (.ref 55), some (.int x4), none, none]) (st1 := []) rfl (fun hp => absurd hp hn) (fun _ => ?_)
  refine gk_W_s 2 (pc1 := 35) (l1 := [some (.ref 0), some (.ref 1), some (.ref 27), some (.ref 55), some (.int x4), none, none]) (st1 := [.int x4, .ref 0]) rfl ?_
  obtain ⟨hb1, h⟩ := h
  refine gk_W_h (i := .iaload) 36 rfl rfl (h_sl hb1) rfl ?_
  refine gk_W_s 2 (pc1 := 39) (l1 := [some (.ref 0), some (.ref 1), some (.ref 27), some (.ref 55), some (.int x4), none, none]) (st1 := [.int ((xs.getD x4.toNatClampNeg 0) &&& 31)]) rfl ?_
  rw [hx]
  refine gk_W_s 3 (pc1 := 23) (l1 := [some (.ref 0), some (.ref 1), some (.ref 27), some (.ref 55), some (.int (x4 + 3)), none, none]) (st1 := []) rfl ?_
  exact h
set_option maxRecDepth 20000 in
theorem lw_op28 {xs : List Int32} {rr : List gk_S} {w w' : gk_Wd} {r : gk_Res} (hS : gk_Sh rr w) (x4 : Int32) (hn : ¬ ((Int32.ofNat xs.length) - 3) < x4) (hx : (xs.getD x4.toNatClampNeg 0) &&& 31 = 28)
    (h : (gk_out x4 xs.length = false ∧ gk_W (some xs) 8 0 23 [some (.ref 0), some (.ref 1), some (.ref 27), some (.ref 55), some (.int (x4 + 3)), none, none] [] w r w')) :
    gk_W (some xs) 8 0 23 [some (.ref 0), some (.ref 1), some (.ref 27), some (.ref 55), some (.int x4), none, none] [] w r w' := by
  refine gk_W_s 2 (pc1 := 26) (l1 := [some (.ref 0), some (.ref 1), some (.ref 27), some (.ref 55), some (.int x4), none, none]) (st1 := [.ref 0, .int x4]) rfl ?_
  refine gk_W_h (i := .arraylength) 27 rfl rfl rfl rfl ?_
  refine gk_W_b 3 (((Int32.ofNat xs.length) - 3) < x4) (t := 734) (e := 32) (l1 := [some (.ref 0), some (.ref 1), some (.ref 27), some (.ref 55), some (.int x4), none, none]) (st1 := []) rfl (fun hp => absurd hp hn) (fun _ => ?_)
  refine gk_W_s 2 (pc1 := 35) (l1 := [some (.ref 0), some (.ref 1), some (.ref 27), some (.ref 55), some (.int x4), none, none]) (st1 := [.int x4, .ref 0]) rfl ?_
  obtain ⟨hb1, h⟩ := h
  refine gk_W_h (i := .iaload) 36 rfl rfl (h_sl hb1) rfl ?_
  refine gk_W_s 2 (pc1 := 39) (l1 := [some (.ref 0), some (.ref 1), some (.ref 27), some (.ref 55), some (.int x4), none, none]) (st1 := [.int ((xs.getD x4.toNatClampNeg 0) &&& 31)]) rfl ?_
  rw [hx]
  refine gk_W_s 3 (pc1 := 23) (l1 := [some (.ref 0), some (.ref 1), some (.ref 27), some (.ref 55), some (.int (x4 + 3)), none, none]) (st1 := []) rfl ?_
  exact h
set_option maxRecDepth 20000 in
theorem lw_op29 {xs : List Int32} {rr : List gk_S} {w w' : gk_Wd} {r : gk_Res} (hS : gk_Sh rr w) (x4 : Int32) (hn : ¬ ((Int32.ofNat xs.length) - 3) < x4) (hx : (xs.getD x4.toNatClampNeg 0) &&& 31 = 29)
    (h : (gk_out x4 xs.length = false ∧ gk_W (some xs) 8 0 23 [some (.ref 0), some (.ref 1), some (.ref 27), some (.ref 55), some (.int (x4 + 3)), none, none] [] w r w')) :
    gk_W (some xs) 8 0 23 [some (.ref 0), some (.ref 1), some (.ref 27), some (.ref 55), some (.int x4), none, none] [] w r w' := by
  refine gk_W_s 2 (pc1 := 26) (l1 := [some (.ref 0), some (.ref 1), some (.ref 27), some (.ref 55), some (.int x4), none, none]) (st1 := [.ref 0, .int x4]) rfl ?_
  refine gk_W_h (i := .arraylength) 27 rfl rfl rfl rfl ?_
  refine gk_W_b 3 (((Int32.ofNat xs.length) - 3) < x4) (t := 734) (e := 32) (l1 := [some (.ref 0), some (.ref 1), some (.ref 27), some (.ref 55), some (.int x4), none, none]) (st1 := []) rfl (fun hp => absurd hp hn) (fun _ => ?_)
  refine gk_W_s 2 (pc1 := 35) (l1 := [some (.ref 0), some (.ref 1), some (.ref 27), some (.ref 55), some (.int x4), none, none]) (st1 := [.int x4, .ref 0]) rfl ?_
  obtain ⟨hb1, h⟩ := h
  refine gk_W_h (i := .iaload) 36 rfl rfl (h_sl hb1) rfl ?_
  refine gk_W_s 2 (pc1 := 39) (l1 := [some (.ref 0), some (.ref 1), some (.ref 27), some (.ref 55), some (.int x4), none, none]) (st1 := [.int ((xs.getD x4.toNatClampNeg 0) &&& 31)]) rfl ?_
  rw [hx]
  refine gk_W_s 3 (pc1 := 23) (l1 := [some (.ref 0), some (.ref 1), some (.ref 27), some (.ref 55), some (.int (x4 + 3)), none, none]) (st1 := []) rfl ?_
  exact h
set_option maxRecDepth 20000 in
theorem lw_op30 {xs : List Int32} {rr : List gk_S} {w w' : gk_Wd} {r : gk_Res} (hS : gk_Sh rr w) (x4 : Int32) (hn : ¬ ((Int32.ofNat xs.length) - 3) < x4) (hx : (xs.getD x4.toNatClampNeg 0) &&& 31 = 30)
    (h : (gk_out x4 xs.length = false ∧ gk_W (some xs) 8 0 23 [some (.ref 0), some (.ref 1), some (.ref 27), some (.ref 55), some (.int (x4 + 3)), none, none] [] w r w')) :
    gk_W (some xs) 8 0 23 [some (.ref 0), some (.ref 1), some (.ref 27), some (.ref 55), some (.int x4), none, none] [] w r w' := by
  refine gk_W_s 2 (pc1 := 26) (l1 := [some (.ref 0), some (.ref 1), some (.ref 27), some (.ref 55), some (.int x4), none, none]) (st1 := [.ref 0, .int x4]) rfl ?_
  refine gk_W_h (i := .arraylength) 27 rfl rfl rfl rfl ?_
  refine gk_W_b 3 (((Int32.ofNat xs.length) - 3) < x4) (t := 734) (e := 32) (l1 := [some (.ref 0), some (.ref 1), some (.ref 27), some (.ref 55), some (.int x4), none, none]) (st1 := []) rfl (fun hp => absurd hp hn) (fun _ => ?_)
  refine gk_W_s 2 (pc1 := 35) (l1 := [some (.ref 0), some (.ref 1), some (.ref 27), some (.ref 55), some (.int x4), none, none]) (st1 := [.int x4, .ref 0]) rfl ?_
  obtain ⟨hb1, h⟩ := h
  refine gk_W_h (i := .iaload) 36 rfl rfl (h_sl hb1) rfl ?_
  refine gk_W_s 2 (pc1 := 39) (l1 := [some (.ref 0), some (.ref 1), some (.ref 27), some (.ref 55), some (.int x4), none, none]) (st1 := [.int ((xs.getD x4.toNatClampNeg 0) &&& 31)]) rfl ?_
  rw [hx]
  refine gk_W_s 3 (pc1 := 23) (l1 := [some (.ref 0), some (.ref 1), some (.ref 27), some (.ref 55), some (.int (x4 + 3)), none, none]) (st1 := []) rfl ?_
  exact h
set_option maxRecDepth 20000 in
theorem lw_op31 {xs : List Int32} {rr : List gk_S} {w w' : gk_Wd} {r : gk_Res} (hS : gk_Sh rr w) (x4 : Int32) (hn : ¬ ((Int32.ofNat xs.length) - 3) < x4) (hx : (xs.getD x4.toNatClampNeg 0) &&& 31 = 31)
    (h : (gk_out x4 xs.length = false ∧ gk_W (some xs) 8 0 23 [some (.ref 0), some (.ref 1), some (.ref 27), some (.ref 55), some (.int (x4 + 3)), none, none] [] w r w')) :
    gk_W (some xs) 8 0 23 [some (.ref 0), some (.ref 1), some (.ref 27), some (.ref 55), some (.int x4), none, none] [] w r w' := by
  refine gk_W_s 2 (pc1 := 26) (l1 := [some (.ref 0), some (.ref 1), some (.ref 27), some (.ref 55), some (.int x4), none, none]) (st1 := [.ref 0, .int x4]) rfl ?_
  refine gk_W_h (i := .arraylength) 27 rfl rfl rfl rfl ?_
  refine gk_W_b 3 (((Int32.ofNat xs.length) - 3) < x4) (t := 734) (e := 32) (l1 := [some (.ref 0), some (.ref 1), some (.ref 27), some (.ref 55), some (.int x4), none, none]) (st1 := []) rfl (fun hp => absurd hp hn) (fun _ => ?_)
  refine gk_W_s 2 (pc1 := 35) (l1 := [some (.ref 0), some (.ref 1), some (.ref 27), some (.ref 55), some (.int x4), none, none]) (st1 := [.int x4, .ref 0]) rfl ?_
  obtain ⟨hb1, h⟩ := h
  refine gk_W_h (i := .iaload) 36 rfl rfl (h_sl hb1) rfl ?_
  refine gk_W_s 2 (pc1 := 39) (l1 := [some (.ref 0), some (.ref 1), some (.ref 27), some (.ref 55), some (.int x4), none, none]) (st1 := [.int ((xs.getD x4.toNatClampNeg 0) &&& 31)]) rfl ?_
  rw [hx]
  refine gk_W_s 3 (pc1 := 23) (l1 := [some (.ref 0), some (.ref 1), some (.ref 27), some (.ref 55), some (.int (x4 + 3)), none, none]) (st1 := []) rfl ?_
  exact h
/-- GrammarDeskLaw.rule(LGrammarDesk;[J)I, at 0 -/
theorem sg_83_ok {d : Nat} {rr : List gk_S} {w w' : gk_Wd} {r : gk_Res} (hS : gk_Sh rr w)
    (h : (∃ (v2 : Int32), ∃ (w3 : gk_Wd), ∃ (rr4 : List gk_S), gk_E d 84 [.ref 1] w (.inl (some (.int v2))) w3 ∧ gk_Sh rr4 w3 ∧ (r = .inl (some (.int 0)) ∧ w' = w_sl w3 54 ((w_l w3 54).set 0 (v2.toInt64))))) :
    gk_W none (d + 1) 83 0 [some (.ref 1), some (.ref 55), none] [] w r w' := by
  refine gk_W_s 3 (pc1 := 3) (l1 := [some (.ref 1), some (.ref 55), none]) (st1 := [.ref 1, .int 0, .ref 55]) rfl ?_
  obtain ⟨v2, w3, rr4, hE1, hS5, h⟩ := h
  refine gk_W_c (i := .invokevirtual 7) [.int v2, .int 0, .ref 55] 6 rfl rfl (c_v (a := 0) hS ly_0 rfl rfl (Nat.le_of_ble_eq_true rfl)) hE1 rfl rfl ?_
  refine gk_W_s 1 (pc1 := 7) (l1 := [some (.ref 1), some (.ref 55), none]) (st1 := [.long (v2.toInt64), .int 0, .ref 55]) rfl ?_
  refine gk_W_h (i := .lastore) 8 rfl rfl (h_ls (a := 54) hS5 ly_54 rfl) rfl ?_
  refine gk_W_s 2 (pc1 := 18) (l1 := [some (.ref 1), some (.ref 55), none]) (st1 := [.int 0]) rfl ?_
  obtain ⟨rfl, rfl⟩ := h
  exact gk_W_r (i := .ireturn) rfl rfl rfl
/-- GrammarDeskLaw.rule(LGrammarDesk;[J)I, at 0 -/
theorem sg_83_t9 {d : Nat} {rr : List gk_S} {w w' : gk_Wd} {r : gk_Res} (hS : gk_Sh rr w)
    (h : (∃ (w2 : gk_Wd) (rr3 : List gk_S), gk_E d 84 [.ref 1] w (.inr 9) w2 ∧ gk_Sh rr3 w2 ∧ (r = .inl (some (.int 1)) ∧ w' = w2))) :
    gk_W none (d + 1) 83 0 [some (.ref 1), some (.ref 55), none] [] w r w' := by
  refine gk_W_s 3 (pc1 := 3) (l1 := [some (.ref 1), some (.ref 55), none]) (st1 := [.ref 1, .int 0, .ref 55]) rfl ?_
  obtain ⟨w2, rr3, hE1, hS4, h⟩ := h
  refine gk_W_t (i := .invokevirtual 7) 11 rfl rfl (c_v (a := 0) hS ly_0 rfl rfl (Nat.le_of_ble_eq_true rfl)) hE1 rfl ?_
  refine gk_W_s 2 (pc1 := 13) (l1 := [some (.ref 1), some (.ref 55), some (.ref w2.length)]) (st1 := [.int 1]) rfl ?_
  obtain ⟨rfl, rfl⟩ := h
  exact gk_W_r (i := .ireturn) rfl rfl rfl
/-- GrammarDeskLaw.rule(LGrammarDesk;[J)I, at 0 -/
theorem sg_83_t10 {d : Nat} {rr : List gk_S} {w w' : gk_Wd} {r : gk_Res} (hS : gk_Sh rr w)
    (h : (∃ (w2 : gk_Wd) (rr3 : List gk_S), gk_E d 84 [.ref 1] w (.inr 10) w2 ∧ gk_Sh rr3 w2 ∧ (r = .inl (some (.int 2)) ∧ w' = w2))) :
    gk_W none (d + 1) 83 0 [some (.ref 1), some (.ref 55), none] [] w r w' := by
  refine gk_W_s 3 (pc1 := 3) (l1 := [some (.ref 1), some (.ref 55), none]) (st1 := [.ref 1, .int 0, .ref 55]) rfl ?_
  obtain ⟨w2, rr3, hE1, hS4, h⟩ := h
  refine gk_W_t (i := .invokevirtual 7) 14 rfl rfl (c_v (a := 0) hS ly_0 rfl rfl (Nat.le_of_ble_eq_true rfl)) hE1 rfl ?_
  refine gk_W_s 2 (pc1 := 16) (l1 := [some (.ref 1), some (.ref 55), some (.ref w2.length)]) (st1 := [.int 2]) rfl ?_
  obtain ⟨rfl, rfl⟩ := h
  exact gk_W_r (i := .ireturn) rfl rfl rfl
/-- GrammarDeskLaw.solid(LGrammarDesk;[J)I, at 0 -/
theorem sg_95_ok {d : Nat} {rr : List gk_S} {w w' : gk_Wd} {r : gk_Res} (hS : gk_Sh rr w)
    (h : (∃ (v2 : Int32), ∃ (w3 : gk_Wd), ∃ (rr4 : List gk_S), gk_E d 96 [.ref 1] w (.inl (some (.int v2))) w3 ∧ gk_Sh rr4 w3 ∧ (r = .inl (some (.int 0)) ∧ w' = w_sl w3 54 ((w_l w3 54).set 0 (v2.toInt64))))) :
    gk_W none (d + 1) 95 0 [some (.ref 1), some (.ref 55), none] [] w r w' := by
  refine gk_W_s 3 (pc1 := 3) (l1 := [some (.ref 1), some (.ref 55), none]) (st1 := [.ref 1, .int 0, .ref 55]) rfl ?_
  obtain ⟨v2, w3, rr4, hE1, hS5, h⟩ := h
  refine gk_W_c (i := .invokevirtual 17) [.int v2, .int 0, .ref 55] 6 rfl rfl (c_v (a := 0) hS ly_0 rfl rfl (Nat.le_of_ble_eq_true rfl)) hE1 rfl rfl ?_
  refine gk_W_s 1 (pc1 := 7) (l1 := [some (.ref 1), some (.ref 55), none]) (st1 := [.long (v2.toInt64), .int 0, .ref 55]) rfl ?_
  refine gk_W_h (i := .lastore) 8 rfl rfl (h_ls (a := 54) hS5 ly_54 rfl) rfl ?_
  refine gk_W_s 2 (pc1 := 15) (l1 := [some (.ref 1), some (.ref 55), none]) (st1 := [.int 0]) rfl ?_
  obtain ⟨rfl, rfl⟩ := h
  exact gk_W_r (i := .ireturn) rfl rfl rfl
/-- GrammarDeskLaw.solid(LGrammarDesk;[J)I, at 0 -/
theorem sg_95_t10 {d : Nat} {rr : List gk_S} {w w' : gk_Wd} {r : gk_Res} (hS : gk_Sh rr w)
    (h : (∃ (w2 : gk_Wd) (rr3 : List gk_S), gk_E d 96 [.ref 1] w (.inr 10) w2 ∧ gk_Sh rr3 w2 ∧ (r = .inl (some (.int 1)) ∧ w' = w2))) :
    gk_W none (d + 1) 95 0 [some (.ref 1), some (.ref 55), none] [] w r w' := by
  refine gk_W_s 3 (pc1 := 3) (l1 := [some (.ref 1), some (.ref 55), none]) (st1 := [.ref 1, .int 0, .ref 55]) rfl ?_
  obtain ⟨w2, rr3, hE1, hS4, h⟩ := h
  refine gk_W_t (i := .invokevirtual 17) 11 rfl rfl (c_v (a := 0) hS ly_0 rfl rfl (Nat.le_of_ble_eq_true rfl)) hE1 rfl ?_
  refine gk_W_s 2 (pc1 := 13) (l1 := [some (.ref 1), some (.ref 55), some (.ref w2.length)]) (st1 := [.int 1]) rfl ?_
  obtain ⟨rfl, rfl⟩ := h
  exact gk_W_r (i := .ireturn) rfl rfl rfl
/-- GrammarDeskLaw.plain(LGrammarDesk;[J)I, at 0 -/
theorem sg_100_ok {d : Nat} {rr : List gk_S} {w w' : gk_Wd} {r : gk_Res} (hS : gk_Sh rr w)
    (h : (∃ (v2 : Int32), ∃ (w3 : gk_Wd), ∃ (rr4 : List gk_S), gk_E d 101 [.ref 1] w (.inl (some (.int v2))) w3 ∧ gk_Sh rr4 w3 ∧ (r = .inl (some (.int 0)) ∧ w' = w_sl w3 54 ((w_l w3 54).set 0 (v2.toInt64))))) :
    gk_W none (d + 1) 100 0 [some (.ref 1), some (.ref 55), none] [] w r w' := by
  refine gk_W_s 3 (pc1 := 3) (l1 := [some (.ref 1), some (.ref 55), none]) (st1 := [.ref 1, .int 0, .ref 55]) rfl ?_
  obtain ⟨v2, w3, rr4, hE1, hS5, h⟩ := h
  refine gk_W_c (i := .invokevirtual 20) [.int v2, .int 0, .ref 55] 6 rfl rfl (c_v (a := 0) hS ly_0 rfl rfl (Nat.le_of_ble_eq_true rfl)) hE1 rfl rfl ?_
  refine gk_W_s 1 (pc1 := 7) (l1 := [some (.ref 1), some (.ref 55), none]) (st1 := [.long (v2.toInt64), .int 0, .ref 55]) rfl ?_
  refine gk_W_h (i := .lastore) 8 rfl rfl (h_ls (a := 54) hS5 ly_54 rfl) rfl ?_
  refine gk_W_s 2 (pc1 := 15) (l1 := [some (.ref 1), some (.ref 55), none]) (st1 := [.int 0]) rfl ?_
  obtain ⟨rfl, rfl⟩ := h
  exact gk_W_r (i := .ireturn) rfl rfl rfl
/-- GrammarDeskLaw.plain(LGrammarDesk;[J)I, at 0 -/
theorem sg_100_t10 {d : Nat} {rr : List gk_S} {w w' : gk_Wd} {r : gk_Res} (hS : gk_Sh rr w)
    (h : (∃ (w2 : gk_Wd) (rr3 : List gk_S), gk_E d 101 [.ref 1] w (.inr 10) w2 ∧ gk_Sh rr3 w2 ∧ (r = .inl (some (.int 1)) ∧ w' = w2))) :
    gk_W none (d + 1) 100 0 [some (.ref 1), some (.ref 55), none] [] w r w' := by
  refine gk_W_s 3 (pc1 := 3) (l1 := [some (.ref 1), some (.ref 55), none]) (st1 := [.ref 1, .int 0, .ref 55]) rfl ?_
  obtain ⟨w2, rr3, hE1, hS4, h⟩ := h
  refine gk_W_t (i := .invokevirtual 20) 11 rfl rfl (c_v (a := 0) hS ly_0 rfl rfl (Nat.le_of_ble_eq_true rfl)) hE1 rfl ?_
  refine gk_W_s 2 (pc1 := 13) (l1 := [some (.ref 1), some (.ref 55), some (.ref w2.length)]) (st1 := [.int 1]) rfl ?_
  obtain ⟨rfl, rfl⟩ := h
  exact gk_W_r (i := .ireturn) rfl rfl rfl
/-- GrammarDeskLaw.greibach(LGrammarDesk;[J)I, at 0 -/
theorem sg_106_ok {d : Nat} {rr : List gk_S} {w w' : gk_Wd} {r : gk_Res} (hS : gk_Sh rr w)
    (h : (∃ (v2 : Int32), ∃ (w3 : gk_Wd), ∃ (rr4 : List gk_S), gk_E d 107 [.ref 1] w (.inl (some (.int v2))) w3 ∧ gk_Sh rr4 w3 ∧ (r = .inl (some (.int 0)) ∧ w' = w_sl w3 54 ((w_l w3 54).set 0 (v2.toInt64))))) :
    gk_W none (d + 1) 106 0 [some (.ref 1), some (.ref 55), none] [] w r w' := by
  refine gk_W_s 3 (pc1 := 3) (l1 := [some (.ref 1), some (.ref 55), none]) (st1 := [.ref 1, .int 0, .ref 55]) rfl ?_
  obtain ⟨v2, w3, rr4, hE1, hS5, h⟩ := h
  refine gk_W_c (i := .invokevirtual 23) [.int v2, .int 0, .ref 55] 6 rfl rfl (c_v (a := 0) hS ly_0 rfl rfl (Nat.le_of_ble_eq_true rfl)) hE1 rfl rfl ?_
  refine gk_W_s 1 (pc1 := 7) (l1 := [some (.ref 1), some (.ref 55), none]) (st1 := [.long (v2.toInt64), .int 0, .ref 55]) rfl ?_
  refine gk_W_h (i := .lastore) 8 rfl rfl (h_ls (a := 54) hS5 ly_54 rfl) rfl ?_
  refine gk_W_s 2 (pc1 := 15) (l1 := [some (.ref 1), some (.ref 55), none]) (st1 := [.int 0]) rfl ?_
  obtain ⟨rfl, rfl⟩ := h
  exact gk_W_r (i := .ireturn) rfl rfl rfl
/-- GrammarDeskLaw.greibach(LGrammarDesk;[J)I, at 0 -/
theorem sg_106_t10 {d : Nat} {rr : List gk_S} {w w' : gk_Wd} {r : gk_Res} (hS : gk_Sh rr w)
    (h : (∃ (w2 : gk_Wd) (rr3 : List gk_S), gk_E d 107 [.ref 1] w (.inr 10) w2 ∧ gk_Sh rr3 w2 ∧ (r = .inl (some (.int 1)) ∧ w' = w2))) :
    gk_W none (d + 1) 106 0 [some (.ref 1), some (.ref 55), none] [] w r w' := by
  refine gk_W_s 3 (pc1 := 3) (l1 := [some (.ref 1), some (.ref 55), none]) (st1 := [.ref 1, .int 0, .ref 55]) rfl ?_
  obtain ⟨w2, rr3, hE1, hS4, h⟩ := h
  refine gk_W_t (i := .invokevirtual 23) 11 rfl rfl (c_v (a := 0) hS ly_0 rfl rfl (Nat.le_of_ble_eq_true rfl)) hE1 rfl ?_
  refine gk_W_s 2 (pc1 := 13) (l1 := [some (.ref 1), some (.ref 55), some (.ref w2.length)]) (st1 := [.int 1]) rfl ?_
  obtain ⟨rfl, rfl⟩ := h
  exact gk_W_r (i := .ireturn) rfl rfl rfl
/-- GrammarDeskLaw.ways(LGrammarDesk;[J)I, at 0 -/
theorem sg_127_ok {d : Nat} {rr : List gk_S} {w w' : gk_Wd} {r : gk_Res} (hS : gk_Sh rr w)
    (h : (∃ (v2 : Int32), ∃ (w3 : gk_Wd), ∃ (rr4 : List gk_S), gk_E d 128 [.ref 1] w (.inl (some (.int v2))) w3 ∧ gk_Sh rr4 w3 ∧ (r = .inl (some (.int 0)) ∧ w' = w_sl w3 54 ((w_l w3 54).set 0 (v2.toInt64))))) :
    gk_W none (d + 1) 127 0 [some (.ref 1), some (.ref 55), none] [] w r w' := by
  refine gk_W_s 3 (pc1 := 3) (l1 := [some (.ref 1), some (.ref 55), none]) (st1 := [.ref 1, .int 0, .ref 55]) rfl ?_
  obtain ⟨v2, w3, rr4, hE1, hS5, h⟩ := h
  refine gk_W_c (i := .invokevirtual 26) [.int v2, .int 0, .ref 55] 6 rfl rfl (c_v (a := 0) hS ly_0 rfl rfl (Nat.le_of_ble_eq_true rfl)) hE1 rfl rfl ?_
  refine gk_W_s 1 (pc1 := 7) (l1 := [some (.ref 1), some (.ref 55), none]) (st1 := [.long (v2.toInt64), .int 0, .ref 55]) rfl ?_
  refine gk_W_h (i := .lastore) 8 rfl rfl (h_ls (a := 54) hS5 ly_54 rfl) rfl ?_
  refine gk_W_s 2 (pc1 := 15) (l1 := [some (.ref 1), some (.ref 55), none]) (st1 := [.int 0]) rfl ?_
  obtain ⟨rfl, rfl⟩ := h
  exact gk_W_r (i := .ireturn) rfl rfl rfl
/-- GrammarDeskLaw.ways(LGrammarDesk;[J)I, at 0 -/
theorem sg_127_t11 {d : Nat} {rr : List gk_S} {w w' : gk_Wd} {r : gk_Res} (hS : gk_Sh rr w)
    (h : (∃ (w2 : gk_Wd) (rr3 : List gk_S), gk_E d 128 [.ref 1] w (.inr 11) w2 ∧ gk_Sh rr3 w2 ∧ (r = .inl (some (.int 1)) ∧ w' = w2))) :
    gk_W none (d + 1) 127 0 [some (.ref 1), some (.ref 55), none] [] w r w' := by
  refine gk_W_s 3 (pc1 := 3) (l1 := [some (.ref 1), some (.ref 55), none]) (st1 := [.ref 1, .int 0, .ref 55]) rfl ?_
  obtain ⟨w2, rr3, hE1, hS4, h⟩ := h
  refine gk_W_t (i := .invokevirtual 26) 11 rfl rfl (c_v (a := 0) hS ly_0 rfl rfl (Nat.le_of_ble_eq_true rfl)) hE1 rfl ?_
  refine gk_W_s 2 (pc1 := 13) (l1 := [some (.ref 1), some (.ref 55), some (.ref w2.length)]) (st1 := [.int 1]) rfl ?_
  obtain ⟨rfl, rfl⟩ := h
  exact gk_W_r (i := .ireturn) rfl rfl rfl
/-- GrammarDeskLaw.derive(LGrammarDesk;[J)I, at 0 -/
theorem sg_135_ok {d : Nat} {rr : List gk_S} {w w' : gk_Wd} {r : gk_Res} (hS : gk_Sh rr w)
    (h : (∃ (v2 : Int32), ∃ (w3 : gk_Wd), ∃ (rr4 : List gk_S), gk_E d 136 [.ref 1] w (.inl (some (.int v2))) w3 ∧ gk_Sh rr4 w3 ∧ (r = .inl (some (.int 0)) ∧ w' = w_sl w3 54 ((w_l w3 54).set 0 (v2.toInt64))))) :
    gk_W none (d + 1) 135 0 [some (.ref 1), some (.ref 55), none] [] w r w' := by
  refine gk_W_s 3 (pc1 := 3) (l1 := [some (.ref 1), some (.ref 55), none]) (st1 := [.ref 1, .int 0, .ref 55]) rfl ?_
  obtain ⟨v2, w3, rr4, hE1, hS5, h⟩ := h
  refine gk_W_c (i := .invokevirtual 31) [.int v2, .int 0, .ref 55] 6 rfl rfl (c_v (a := 0) hS ly_0 rfl rfl (Nat.le_of_ble_eq_true rfl)) hE1 rfl rfl ?_
  refine gk_W_s 1 (pc1 := 7) (l1 := [some (.ref 1), some (.ref 55), none]) (st1 := [.long (v2.toInt64), .int 0, .ref 55]) rfl ?_
  refine gk_W_h (i := .lastore) 8 rfl rfl (h_ls (a := 54) hS5 ly_54 rfl) rfl ?_
  refine gk_W_s 2 (pc1 := 18) (l1 := [some (.ref 1), some (.ref 55), none]) (st1 := [.int 0]) rfl ?_
  obtain ⟨rfl, rfl⟩ := h
  exact gk_W_r (i := .ireturn) rfl rfl rfl
/-- GrammarDeskLaw.derive(LGrammarDesk;[J)I, at 0 -/
theorem sg_135_t11 {d : Nat} {rr : List gk_S} {w w' : gk_Wd} {r : gk_Res} (hS : gk_Sh rr w)
    (h : (∃ (w2 : gk_Wd) (rr3 : List gk_S), gk_E d 136 [.ref 1] w (.inr 11) w2 ∧ gk_Sh rr3 w2 ∧ (r = .inl (some (.int 1)) ∧ w' = w2))) :
    gk_W none (d + 1) 135 0 [some (.ref 1), some (.ref 55), none] [] w r w' := by
  refine gk_W_s 3 (pc1 := 3) (l1 := [some (.ref 1), some (.ref 55), none]) (st1 := [.ref 1, .int 0, .ref 55]) rfl ?_
  obtain ⟨w2, rr3, hE1, hS4, h⟩ := h
  refine gk_W_t (i := .invokevirtual 31) 11 rfl rfl (c_v (a := 0) hS ly_0 rfl rfl (Nat.le_of_ble_eq_true rfl)) hE1 rfl ?_
  refine gk_W_s 2 (pc1 := 13) (l1 := [some (.ref 1), some (.ref 55), some (.ref w2.length)]) (st1 := [.int 1]) rfl ?_
  obtain ⟨rfl, rfl⟩ := h
  exact gk_W_r (i := .ireturn) rfl rfl rfl
/-- GrammarDeskLaw.derive(LGrammarDesk;[J)I, at 0 -/
theorem sg_135_t9 {d : Nat} {rr : List gk_S} {w w' : gk_Wd} {r : gk_Res} (hS : gk_Sh rr w)
    (h : (∃ (w2 : gk_Wd) (rr3 : List gk_S), gk_E d 136 [.ref 1] w (.inr 9) w2 ∧ gk_Sh rr3 w2 ∧ (r = .inl (some (.int 2)) ∧ w' = w2))) :
    gk_W none (d + 1) 135 0 [some (.ref 1), some (.ref 55), none] [] w r w' := by
  refine gk_W_s 3 (pc1 := 3) (l1 := [some (.ref 1), some (.ref 55), none]) (st1 := [.ref 1, .int 0, .ref 55]) rfl ?_
  obtain ⟨w2, rr3, hE1, hS4, h⟩ := h
  refine gk_W_t (i := .invokevirtual 31) 14 rfl rfl (c_v (a := 0) hS ly_0 rfl rfl (Nat.le_of_ble_eq_true rfl)) hE1 rfl ?_
  refine gk_W_s 2 (pc1 := 16) (l1 := [some (.ref 1), some (.ref 55), some (.ref w2.length)]) (st1 := [.int 2]) rfl ?_
  obtain ⟨rfl, rfl⟩ := h
  exact gk_W_r (i := .ireturn) rfl rfl rfl
