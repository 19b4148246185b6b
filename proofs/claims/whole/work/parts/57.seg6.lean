/-! printed by wip/whole/sym.py: from cut to cut: 189 standsBehind, 190 shape, 191 isForm, 193 isEndless, 194 findGrows, 196 findFirsts, 197 firstFrom, 200 findFollows, 201 single, 202 choosing, 204 wipe, 205 derives, 206 findEnds, 207 reachOf, 209 waysOfRule, 212 derive, 213 chooseRule, 214 canEnd -/
set_option maxRecDepth 8000 in
/-- GrammarDeskModel.standsBehind(I)Z, at 0 -/
theorem sg_189_0 {d : Nat} {rr : List gk_S} {w w' : gk_Wd} {r : gk_Res} (hS : gk_Sh rr w) (x1 : Int32)
    (h : gk_W none (d + 1) 189 4 [some (.ref 27), some (.int x1), some (.int 0), some (.int 0), none] [] w r w') :
    gk_W none (d + 1) 189 0 [some (.ref 27), some (.int x1), none, none, none] [] w r w' := by
  refine gk_W_s 4 (pc1 := 4) (l1 := [some (.ref 27), some (.int x1), some (.int 0), some (.int 0), none]) (st1 := []) rfl ?_
  exact h
set_option maxRecDepth 8000 in
/-- GrammarDeskModel.standsBehind(I)Z, at 4 -/
theorem sg_189_4 {d : Nat} {rr : List gk_S} {w w' : gk_Wd} {r : gk_Res} (hS : gk_Sh rr w) (x1 : Int32) (x2 : Int32) (x3 : Int32)
    (h : (((w_i w 26 4) ≤ x3 → (fits .boolean (.int x2) = true ∧ r = .inl (some (.int x2)) ∧ w' = w)) ∧ (¬ ((w_i w 26 4) ≤ x3) → gk_W none (d + 1) 189 15 [some (.ref 27), some (.int x1), some (.int x2), some (.int x3), some (.int 1)] [] w r w'))) :
    gk_W none (d + 1) 189 4 [some (.ref 27), some (.int x1), some (.int x2), some (.int x3), none] [] w r w' := by
  refine gk_W_s 2 (pc1 := 6) (l1 := [some (.ref 27), some (.int x1), some (.int x2), some (.int x3), none]) (st1 := [.ref 27, .int x3]) rfl ?_
  refine gk_W_h (i := .getfield 111) 9 rfl rfl (h_gi (a := 26) (k := 4) hS ly_26 rfl) rfl ?_
  refine gk_W_b 1 ((w_i w 26 4) ≤ x3) (t := 59) (e := 12) (l1 := [some (.ref 27), some (.int x1), some (.int x2), some (.int x3), none]) (st1 := []) rfl (fun hp1 => ?_) (fun hp1 => ?_)
  · have h := h.1 hp1
    refine gk_W_s 1 (pc1 := 60) (l1 := [some (.ref 27), some (.int x1), some (.int x2), some (.int x3), none]) (st1 := [.int x2]) rfl ?_
    obtain ⟨hf, rfl, rfl⟩ := h
    exact gk_W_r (i := .ireturn) rfl rfl (gk_ret_f hf)
  · have h := h.2 hp1
    refine gk_W_s 2 (pc1 := 15) (l1 := [some (.ref 27), some (.int x1), some (.int x2), some (.int x3), some (.int 1)]) (st1 := []) rfl ?_
    exact h
set_option maxRecDepth 8000 in
/-- GrammarDeskModel.standsBehind(I)Z, at 15 -/
theorem sg_189_15 {d : Nat} {rr : List gk_S} {w w' : gk_Wd} {r : gk_Res} (hS : gk_Sh rr w) (x1 : Int32) (x2 : Int32) (x3 : Int32) (x4 : Int32)
    (h : (gk_out x3 64 = false ∧ ((((w_a w 29).getD x3.toNatClampNeg 0) ≤ x4 → gk_W none (d + 1) 189 4 [some (.ref 27), some (.int x1), some (.int x2), some (.int (x3 + 1)), none] [] w r w') ∧ (¬ (((w_a w 29).getD x3.toNatClampNeg 0) ≤ x4) → ((¬ x2 = 0 → gk_W none (d + 1) 189 15 [some (.ref 27), some (.int x1), some (.int 1), some (.int x3), some (.int (x4 + 1))] [] w r w') ∧ (x2 = 0 → ((gk_out ((10 * x3) + x4) 640 = false) ∧ ((¬ (f_151 w x3 x4) = x1 → gk_W none (d + 1) 189 15 [some (.ref 27), some (.int x1), some (.int 0), some (.int x3), some (.int (x4 + 1))] [] w r w') ∧ ((f_151 w x3 x4) = x1 → gk_W none (d + 1) 189 15 [some (.ref 27), some (.int x1), some (.int 1), some (.int x3), some (.int (x4 + 1))] [] w r w'))))))))) :
    gk_W none (d + 1) 189 15 [some (.ref 27), some (.int x1), some (.int x2), some (.int x3), some (.int x4)] [] w r w' := by
  refine gk_W_s 2 (pc1 := 18) (l1 := [some (.ref 27), some (.int x1), some (.int x2), some (.int x3), some (.int x4)]) (st1 := [.ref 27, .int x4]) rfl ?_
  refine gk_W_h (i := .getfield 21) 21 rfl rfl (h_gr (a := 26) (k := 6) (m := 30) hS ly_26 rfl) rfl ?_
  refine gk_W_s 1 (pc1 := 22) (l1 := [some (.ref 27), some (.int x1), some (.int x2), some (.int x3), some (.int x4)]) (st1 := [.int x3, .ref 30, .int x4]) rfl ?_
  obtain ⟨hb1, h⟩ := h
  refine gk_W_h (i := .iaload) 23 rfl rfl (h_al (a := 29) (scr := none) hS ly_29 hb1) rfl ?_
  refine gk_W_b 1 (((w_a w 29).getD x3.toNatClampNeg 0) ≤ x4) (t := 53) (e := 26) (l1 := [some (.ref 27), some (.int x1), some (.int x2), some (.int x3), some (.int x4)]) (st1 := []) rfl (fun hp2 => ?_) (fun hp2 => ?_)
  · have h := h.1 hp2
    refine gk_W_s 2 (pc1 := 4) (l1 := [some (.ref 27), some (.int x1), some (.int x2), some (.int (x3 + 1)), some (.int x4)]) (st1 := []) rfl ?_
    exact gk_W_le (gk_le_s (gk_le_s (gk_le_s (gk_le_s (gk_le_n (gk_le_0)))))) h
  · have h := h.2 hp2
    refine gk_W_b 2 (¬ x2 = 0) (t := 41) (e := 30) (l1 := [some (.ref 27), some (.int x1), some (.int x2), some (.int x3), some (.int x4)]) (st1 := []) rfl (fun hp3 => ?_) (fun hp3 => ?_)
    · have h := h.1 hp3
      refine gk_W_s 5 (pc1 := 15) (l1 := [some (.ref 27), some (.int x1), some (.int 1), some (.int x3), some (.int (x4 + 1))]) (st1 := []) rfl ?_
      exact h
    · have h := h.2 (Decidable.not_not.mp hp3)
      refine gk_W_s 3 (pc1 := 34) (l1 := [some (.ref 27), some (.int x1), some (.int x2), some (.int x3), some (.int x4)]) (st1 := [.int x4, .int x3, .ref 27]) rfl ?_
      obtain ⟨hb4, h⟩ := h
      refine gk_W_c (i := .invokevirtual 103) [.int (f_151 w x3 x4)] 37 rfl rfl (c_v (a := 26) hS ly_26 rfl rfl (Nat.le_of_ble_eq_true rfl)) (f_151_E hS x3 x4 hb4) rfl rfl ?_
      refine gk_W_b 2 (¬ (f_151 w x3 x4) = x1) (t := 45) (e := 41) (l1 := [some (.ref 27), some (.int x1), some (.int x2), some (.int x3), some (.int x4)]) (st1 := []) rfl (fun hp5 => ?_) (fun hp5 => ?_)
      · have h := h.1 hp5
        refine gk_W_s 4 (pc1 := 15) (l1 := [some (.ref 27), some (.int x1), some (.int 0), some (.int x3), some (.int (x4 + 1))]) (st1 := []) rfl ?_
        exact h
      · have h := h.2 (Decidable.not_not.mp hp5)
        refine gk_W_s 5 (pc1 := 15) (l1 := [some (.ref 27), some (.int x1), some (.int 1), some (.int x3), some (.int (x4 + 1))]) (st1 := []) rfl ?_
        exact h
set_option maxRecDepth 8000 in
/-- GrammarDeskModel.shape()I, at 0 -/
theorem sg_190_0 {d : Nat} {rr : List gk_S} {w w' : gk_Wd} {r : gk_Res} (hS : gk_Sh rr w)
    (h : gk_W none (d + 2) 190 11 [some (.ref 27), some (.int 0), some (.int 0), some (.int 0), none] [] (w_si w 26 0 0) r w') :
    gk_W none (d + 2) 190 0 [some (.ref 27), none, none, none, none] [] w r w' := by
  refine gk_W_s 2 (pc1 := 2) (l1 := [some (.ref 27), none, none, none, none]) (st1 := [.int 0, .ref 27]) rfl ?_
  refine gk_W_h (i := .putfield 97) 5 rfl rfl (h_pi (a := 26) (k := 0) (x := 0) hS ly_26 rfl rfl) rfl ?_
  refine gk_W_s 6 (pc1 := 11) (l1 := [some (.ref 27), some (.int 0), some (.int 0), some (.int 0), none]) (st1 := []) rfl ?_
  exact h
set_option maxRecDepth 8000 in
/-- GrammarDeskModel.shape()I, at 11 -/
theorem sg_190_11 {d : Nat} {rr : List gk_S} {w w' : gk_Wd} {r : gk_Res} (hS : gk_Sh rr w) (x1 : Int32) (x2 : Int32) (x3 : Int32)
    (h : (((w_i w 26 4) ≤ x3 → (∃ (v3 : Int32), gk_E (d + 1) 191 [.ref 27] w (.inl (some (.int v3))) w ∧ (∃ (w5 : gk_Wd), gk_E (d + 1) 147 [.ref 27] w (.inl none) w5 ∧ gk_Sh rr w5 ∧ (∃ (v8 : Int32), ∃ (w9 : gk_Wd), gk_E (d + 1) 161 [.ref 27] w5 (.inl (some (.int v8))) w9 ∧ gk_Sh rr w9 ∧ ((v8 ≤ 0 → (∃ (w13 : gk_Wd), gk_E (d + 1) 174 [.ref 27] w9 (.inl none) w13 ∧ gk_Sh rr w13 ∧ ((x1 = 0 → ((x2 = 0 → ((v3 = 0 → (r = .inl (some (.int (((1 + 2) + 4) + 0))) ∧ w' = w13)) ∧ (¬ (v3 = 0) → (r = .inl (some (.int (((1 + 2) + 4) + 8))) ∧ w' = w13)))) ∧ (¬ (x2 = 0) → ((v3 = 0 → (r = .inl (some (.int (((1 + 0) + 4) + 0))) ∧ w' = w13)) ∧ (¬ (v3 = 0) → (r = .inl (some (.int (((1 + 0) + 4) + 8))) ∧ w' = w13)))))) ∧ (¬ (x1 = 0) → ((x2 = 0 → ((v3 = 0 → (r = .inl (some (.int (((0 + 2) + 4) + 0))) ∧ w' = w13)) ∧ (¬ (v3 = 0) → (r = .inl (some (.int (((0 + 2) + 4) + 8))) ∧ w' = w13)))) ∧ (¬ (x2 = 0) → ((v3 = 0 → (r = .inl (some (.int (((0 + 0) + 4) + 0))) ∧ w' = w13)) ∧ (¬ (v3 = 0) → (r = .inl (some (.int (((0 + 0) + 4) + 8))) ∧ w' = w13))))))))) ∧ (¬ (v8 ≤ 0) → (∃ (w23 : gk_Wd), gk_E (d + 1) 174 [.ref 27] w9 (.inl none) w23 ∧ gk_Sh rr w23 ∧ ((x1 = 0 → ((x2 = 0 → ((v3 = 0 → (r = .inl (some (.int (((1 + 2) + 0) + 0))) ∧ w' = w23)) ∧ (¬ (v3 = 0) → (r = .inl (some (.int (((1 + 2) + 0) + 8))) ∧ w' = w23)))) ∧ (¬ (x2 = 0) → ((v3 = 0 → (r = .inl (some (.int (((1 + 0) + 0) + 0))) ∧ w' = w23)) ∧ (¬ (v3 = 0) → (r = .inl (some (.int (((1 + 0) + 0) + 8))) ∧ w' = w23)))))) ∧ (¬ (x1 = 0) → ((x2 = 0 → ((v3 = 0 → (r = .inl (some (.int (((0 + 2) + 0) + 0))) ∧ w' = w23)) ∧ (¬ (v3 = 0) → (r = .inl (some (.int (((0 + 2) + 0) + 8))) ∧ w' = w23)))) ∧ (¬ (x2 = 0) → ((v3 = 0 → (r = .inl (some (.int (((0 + 0) + 0) + 0))) ∧ w' = w23)) ∧ (¬ (v3 = 0) → (r = .inl (some (.int (((0 + 0) + 0) + 8))) ∧ w' = w23)))))))))))))) ∧ (¬ ((w_i w 26 4) ≤ x3) → ((¬ x1 = 0 → ((¬ x2 = 0 → gk_W none (d + 2) 190 11 [some (.ref 27), some (.int 1), some (.int 1), some (.int (x3 + 1)), none] [] w r w') ∧ (x2 = 0 → ((gk_out x3 64 = false) ∧ (¬ (¬ ((w_a w 29).getD x3.toNatClampNeg 0) = 1) → (gk_out ((10 * x3) + 0) 640 = false)) ∧ (((f_179 w x3) = 0 → gk_W none (d + 2) 190 11 [some (.ref 27), some (.int 1), some (.int 0), some (.int (x3 + 1)), none] [] w r w') ∧ (¬ ((f_179 w x3) = 0) → gk_W none (d + 2) 190 11 [some (.ref 27), some (.int 1), some (.int 1), some (.int (x3 + 1)), none] [] w r w')))))) ∧ (x1 = 0 → (gk_out x3 64 = false ∧ ((¬ ((w_a w 29).getD x3.toNatClampNeg 0) = 0 → ((¬ x2 = 0 → gk_W none (d + 2) 190 11 [some (.ref 27), some (.int 0), some (.int 1), some (.int (x3 + 1)), none] [] w r w') ∧ (x2 = 0 → ((gk_out x3 64 = false) ∧ (¬ (¬ ((w_a w 29).getD x3.toNatClampNeg 0) = 1) → (gk_out ((10 * x3) + 0) 640 = false)) ∧ (((f_179 w x3) = 0 → gk_W none (d + 2) 190 11 [some (.ref 27), some (.int 0), some (.int 0), some (.int (x3 + 1)), none] [] w r w') ∧ (¬ ((f_179 w x3) = 0) → gk_W none (d + 2) 190 11 [some (.ref 27), some (.int 0), some (.int 1), some (.int (x3 + 1)), none] [] w r w')))))) ∧ (((w_a w 29).getD x3.toNatClampNeg 0) = 0 → ((¬ x2 = 0 → gk_W none (d + 2) 190 11 [some (.ref 27), some (.int 1), some (.int 1), some (.int (x3 + 1)), none] [] w r w') ∧ (x2 = 0 → ((gk_out x3 64 = false) ∧ (¬ (¬ ((w_a w 29).getD x3.toNatClampNeg 0) = 1) → (gk_out ((10 * x3) + 0) 640 = false)) ∧ (((f_179 w x3) = 0 → gk_W none (d + 2) 190 11 [some (.ref 27), some (.int 1), some (.int 0), some (.int (x3 + 1)), none] [] w r w') ∧ (¬ ((f_179 w x3) = 0) → gk_W none (d + 2) 190 11 [some (.ref 27), some (.int 1), some (.int 1), some (.int (x3 + 1)), none] [] w r w'))))))))))))) :
    gk_W none (d + 2) 190 11 [some (.ref 27), some (.int x1), some (.int x2), some (.int x3), none] [] w r w' := by
  refine gk_W_s 2 (pc1 := 13) (l1 := [some (.ref 27), some (.int x1), some (.int x2), some (.int x3), none]) (st1 := [.ref 27, .int x3]) rfl ?_
  refine gk_W_h (i := .getfield 111) 16 rfl rfl (h_gi (a := 26) (k := 4) hS ly_26 rfl) rfl ?_
  refine gk_W_b 1 ((w_i w 26 4) ≤ x3) (t := 62) (e := 19) (l1 := [some (.ref 27), some (.int x1), some (.int x2), some (.int x3), none]) (st1 := []) rfl (fun hp1 => ?_) (fun hp1 => ?_)
  · have h := h.1 hp1
    refine gk_W_s 1 (pc1 := 63) (l1 := [some (.ref 27), some (.int x1), some (.int x2), some (.int x3), none]) (st1 := [.ref 27]) rfl ?_
    obtain ⟨v3, hE2, h⟩ := h
    refine gk_W_c (i := .invokevirtual 246) [.int v3] 66 rfl rfl (c_v (a := 26) hS ly_26 rfl rfl (Nat.le_of_ble_eq_true rfl)) hE2 rfl rfl ?_
    refine gk_W_s 2 (pc1 := 68) (l1 := [some (.ref 27), some (.int x1), some (.int x2), some (.int v3), none]) (st1 := [.ref 27]) rfl ?_
    obtain ⟨w5, hE4, hS6, h⟩ := h
    refine gk_W_c (i := .invokevirtual 152) [] 71 rfl rfl (c_v (a := 26) hS ly_26 rfl rfl (Nat.le_of_ble_eq_true rfl)) hE4 rfl rfl ?_
    refine gk_W_s 1 (pc1 := 72) (l1 := [some (.ref 27), some (.int x1), some (.int x2), some (.int v3), none]) (st1 := [.ref 27]) rfl ?_
    obtain ⟨v8, w9, hE7, hS10, h⟩ := h
    refine gk_W_c (i := .invokevirtual 183) [.int v8] 75 rfl rfl (c_v (a := 26) hS6 ly_26 rfl rfl (Nat.le_of_ble_eq_true rfl)) hE7 rfl rfl ?_
    refine gk_W_b 1 (v8 ≤ 0) (t := 82) (e := 78) (l1 := [some (.ref 27), some (.int x1), some (.int x2), some (.int v3), none]) (st1 := []) rfl (fun hp11 => ?_) (fun hp11 => ?_)
    · have h := h.1 hp11
      refine gk_W_s 3 (pc1 := 86) (l1 := [some (.ref 27), some (.int x1), some (.int x2), some (.int v3), some (.int 0)]) (st1 := [.ref 27]) rfl ?_
      obtain ⟨w13, hE12, hS14, h⟩ := h
      refine gk_W_c (i := .invokevirtual 127) [] 89 rfl rfl (c_v (a := 26) hS10 ly_26 rfl rfl (Nat.le_of_ble_eq_true rfl)) hE12 rfl rfl ?_
      refine gk_W_b 2 (x1 = 0) (t := 97) (e := 93) (l1 := [some (.ref 27), some (.int x1), some (.int x2), some (.int v3), some (.int 0)]) (st1 := []) rfl (fun hp15 => ?_) (fun hp15 => ?_)
      · have h := h.1 hp15
        refine gk_W_b 3 (x2 = 0) (t := 106) (e := 102) (l1 := [some (.ref 27), some (.int x1), some (.int x2), some (.int v3), some (.int 0)]) (st1 := [.int 1]) rfl (fun hp16 => ?_) (fun hp16 => ?_)
        · have h := h.1 hp16
          refine gk_W_b 8 (v3 = 0) (t := 128) (e := 123) (l1 := [some (.ref 27), some (.int x1), some (.int x2), some (.int v3), some (.int 0)]) (st1 := [.int ((1 + 2) + 4)]) rfl (fun hp17 => ?_) (fun hp17 => ?_)
          · have h := h.1 hp17
            refine gk_W_s 2 (pc1 := 130) (l1 := [some (.ref 27), some (.int x1), some (.int x2), some (.int v3), some (.int 0)]) (st1 := [.int (((1 + 2) + 4) + 0)]) rfl ?_
            obtain ⟨rfl, rfl⟩ := h
            exact gk_W_r (i := .ireturn) rfl rfl rfl
          · have h := h.2 hp17
            refine gk_W_s 3 (pc1 := 130) (l1 := [some (.ref 27), some (.int x1), some (.int x2), some (.int v3), some (.int 0)]) (st1 := [.int (((1 + 2) + 4) + 8)]) rfl ?_
            obtain ⟨rfl, rfl⟩ := h
            exact gk_W_r (i := .ireturn) rfl rfl rfl
        · have h := h.2 hp16
          refine gk_W_b 9 (v3 = 0) (t := 128) (e := 123) (l1 := [some (.ref 27), some (.int x1), some (.int x2), some (.int v3), some (.int 0)]) (st1 := [.int ((1 + 0) + 4)]) rfl (fun hp18 => ?_) (fun hp18 => ?_)
          · have h := h.1 hp18
            refine gk_W_s 2 (pc1 := 130) (l1 := [some (.ref 27), some (.int x1), some (.int x2), some (.int v3), some (.int 0)]) (st1 := [.int (((1 + 0) + 4) + 0)]) rfl ?_
            obtain ⟨rfl, rfl⟩ := h
            exact gk_W_r (i := .ireturn) rfl rfl rfl
          · have h := h.2 hp18
            refine gk_W_s 3 (pc1 := 130) (l1 := [some (.ref 27), some (.int x1), some (.int x2), some (.int v3), some (.int 0)]) (st1 := [.int (((1 + 0) + 4) + 8)]) rfl ?_
            obtain ⟨rfl, rfl⟩ := h
            exact gk_W_r (i := .ireturn) rfl rfl rfl
      · have h := h.2 hp15
        refine gk_W_b 4 (x2 = 0) (t := 106) (e := 102) (l1 := [some (.ref 27), some (.int x1), some (.int x2), some (.int v3), some (.int 0)]) (st1 := [.int 0]) rfl (fun hp19 => ?_) (fun hp19 => ?_)
        · have h := h.1 hp19
          refine gk_W_b 8 (v3 = 0) (t := 128) (e := 123) (l1 := [some (.ref 27), some (.int x1), some (.int x2), some (.int v3), some (.int 0)]) (st1 := [.int ((0 + 2) + 4)]) rfl (fun hp20 => ?_) (fun hp20 => ?_)
          · have h := h.1 hp20
            refine gk_W_s 2 (pc1 := 130) (l1 := [some (.ref 27), some (.int x1), some (.int x2), some (.int v3), some (.int 0)]) (st1 := [.int (((0 + 2) + 4) + 0)]) rfl ?_
            obtain ⟨rfl, rfl⟩ := h
            exact gk_W_r (i := .ireturn) rfl rfl rfl
          · have h := h.2 hp20
            refine gk_W_s 3 (pc1 := 130) (l1 := [some (.ref 27), some (.int x1), some (.int x2), some (.int v3), some (.int 0)]) (st1 := [.int (((0 + 2) + 4) + 8)]) rfl ?_
            obtain ⟨rfl, rfl⟩ := h
            exact gk_W_r (i := .ireturn) rfl rfl rfl
        · have h := h.2 hp19
          refine gk_W_b 9 (v3 = 0) (t := 128) (e := 123) (l1 := [some (.ref 27), some (.int x1), some (.int x2), some (.int v3), some (.int 0)]) (st1 := [.int ((0 + 0) + 4)]) rfl (fun hp21 => ?_) (fun hp21 => ?_)
          · have h := h.1 hp21
            refine gk_W_s 2 (pc1 := 130) (l1 := [some (.ref 27), some (.int x1), some (.int x2), some (.int v3), some (.int 0)]) (st1 := [.int (((0 + 0) + 4) + 0)]) rfl ?_
            obtain ⟨rfl, rfl⟩ := h
            exact gk_W_r (i := .ireturn) rfl rfl rfl
          · have h := h.2 hp21
            refine gk_W_s 3 (pc1 := 130) (l1 := [some (.ref 27), some (.int x1), some (.int x2), some (.int v3), some (.int 0)]) (st1 := [.int (((0 + 0) + 4) + 8)]) rfl ?_
            obtain ⟨rfl, rfl⟩ := h
            exact gk_W_r (i := .ireturn) rfl rfl rfl
    · have h := h.2 hp11
      refine gk_W_s 4 (pc1 := 86) (l1 := [some (.ref 27), some (.int x1), some (.int x2), some (.int v3), some (.int 1)]) (st1 := [.ref 27]) rfl ?_
      obtain ⟨w23, hE22, hS24, h⟩ := h
      refine gk_W_c (i := .invokevirtual 127) [] 89 rfl rfl (c_v (a := 26) hS10 ly_26 rfl rfl (Nat.le_of_ble_eq_true rfl)) hE22 rfl rfl ?_
      refine gk_W_b 2 (x1 = 0) (t := 97) (e := 93) (l1 := [some (.ref 27), some (.int x1), some (.int x2), some (.int v3), some (.int 1)]) (st1 := []) rfl (fun hp25 => ?_) (fun hp25 => ?_)
      · have h := h.1 hp25
        refine gk_W_b 3 (x2 = 0) (t := 106) (e := 102) (l1 := [some (.ref 27), some (.int x1), some (.int x2), some (.int v3), some (.int 1)]) (st1 := [.int 1]) rfl (fun hp26 => ?_) (fun hp26 => ?_)
        · have h := h.1 hp26
          refine gk_W_b 9 (v3 = 0) (t := 128) (e := 123) (l1 := [some (.ref 27), some (.int x1), some (.int x2), some (.int v3), some (.int 1)]) (st1 := [.int ((1 + 2) + 0)]) rfl (fun hp27 => ?_) (fun hp27 => ?_)
          · have h := h.1 hp27
            refine gk_W_s 2 (pc1 := 130) (l1 := [some (.ref 27), some (.int x1), some (.int x2), some (.int v3), some (.int 1)]) (st1 := [.int (((1 + 2) + 0) + 0)]) rfl ?_
            obtain ⟨rfl, rfl⟩ := h
            exact gk_W_r (i := .ireturn) rfl rfl rfl
          · have h := h.2 hp27
            refine gk_W_s 3 (pc1 := 130) (l1 := [some (.ref 27), some (.int x1), some (.int x2), some (.int v3), some (.int 1)]) (st1 := [.int (((1 + 2) + 0) + 8)]) rfl ?_
            obtain ⟨rfl, rfl⟩ := h
            exact gk_W_r (i := .ireturn) rfl rfl rfl
        · have h := h.2 hp26
          refine gk_W_b 10 (v3 = 0) (t := 128) (e := 123) (l1 := [some (.ref 27), some (.int x1), some (.int x2), some (.int v3), some (.int 1)]) (st1 := [.int ((1 + 0) + 0)]) rfl (fun hp28 => ?_) (fun hp28 => ?_)
          · have h := h.1 hp28
            refine gk_W_s 2 (pc1 := 130) (l1 := [some (.ref 27), some (.int x1), some (.int x2), some (.int v3), some (.int 1)]) (st1 := [.int (((1 + 0) + 0) + 0)]) rfl ?_
            obtain ⟨rfl, rfl⟩ := h
            exact gk_W_r (i := .ireturn) rfl rfl rfl
          · have h := h.2 hp28
            refine gk_W_s 3 (pc1 := 130) (l1 := [some (.ref 27), some (.int x1), some (.int x2), some (.int v3), some (.int 1)]) (st1 := [.int (((1 + 0) + 0) + 8)]) rfl ?_
            obtain ⟨rfl, rfl⟩ := h
            exact gk_W_r (i := .ireturn) rfl rfl rfl
      · have h := h.2 hp25
        refine gk_W_b 4 (x2 = 0) (t := 106) (e := 102) (l1 := [some (.ref 27), some (.int x1), some (.int x2), some (.int v3), some (.int 1)]) (st1 := [.int 0]) rfl (fun hp29 => ?_) (fun hp29 => ?_)
        · have h := h.1 hp29
          refine gk_W_b 9 (v3 = 0) (t := 128) (e := 123) (l1 := [some (.ref 27), some (.int x1), some (.int x2), some (.int v3), some (.int 1)]) (st1 := [.int ((0 + 2) + 0)]) rfl (fun hp30 => ?_) (fun hp30 => ?_)
          · have h := h.1 hp30
            refine gk_W_s 2 (pc1 := 130) (l1 := [some (.ref 27), some (.int x1), some (.int x2), some (.int v3), some (.int 1)]) (st1 := [.int (((0 + 2) + 0) + 0)]) rfl ?_
            obtain ⟨rfl, rfl⟩ := h
            exact gk_W_r (i := .ireturn) rfl rfl rfl
          · have h := h.2 hp30
            refine gk_W_s 3 (pc1 := 130) (l1 := [some (.ref 27), some (.int x1), some (.int x2), some (.int v3), some (.int 1)]) (st1 := [.int (((0 + 2) + 0) + 8)]) rfl ?_
            obtain ⟨rfl, rfl⟩ := h
            exact gk_W_r (i := .ireturn) rfl rfl rfl
        · have h := h.2 hp29
          refine gk_W_b 10 (v3 = 0) (t := 128) (e := 123) (l1 := [some (.ref 27), some (.int x1), some (.int x2), some (.int v3), some (.int 1)]) (st1 := [.int ((0 + 0) + 0)]) rfl (fun hp31 => ?_) (fun hp31 => ?_)
          · have h := h.1 hp31
            refine gk_W_s 2 (pc1 := 130) (l1 := [some (.ref 27), some (.int x1), some (.int x2), some (.int v3), some (.int 1)]) (st1 := [.int (((0 + 0) + 0) + 0)]) rfl ?_
            obtain ⟨rfl, rfl⟩ := h
            exact gk_W_r (i := .ireturn) rfl rfl rfl
          · have h := h.2 hp31
            refine gk_W_s 3 (pc1 := 130) (l1 := [some (.ref 27), some (.int x1), some (.int x2), some (.int v3), some (.int 1)]) (st1 := [.int (((0 + 0) + 0) + 8)]) rfl ?_
            obtain ⟨rfl, rfl⟩ := h
            exact gk_W_r (i := .ireturn) rfl rfl rfl
  · have h := h.2 hp1
    refine gk_W_b 2 (¬ x1 = 0) (t := 32) (e := 23) (l1 := [some (.ref 27), some (.int x1), some (.int x2), some (.int x3), none]) (st1 := []) rfl (fun hp32 => ?_) (fun hp32 => ?_)
    · have h := h.1 hp32
      refine gk_W_b 5 (¬ x2 = 0) (t := 50) (e := 42) (l1 := [some (.ref 27), some (.int 1), some (.int x2), some (.int x3), none]) (st1 := []) rfl (fun hp33 => ?_) (fun hp33 => ?_)
      · have h := h.1 hp33
        refine gk_W_s 5 (pc1 := 11) (l1 := [some (.ref 27), some (.int 1), some (.int 1), some (.int (x3 + 1)), none]) (st1 := []) rfl ?_
        exact h
      · have h := h.2 (Decidable.not_not.mp hp33)
        refine gk_W_s 2 (pc1 := 44) (l1 := [some (.ref 27), some (.int 1), some (.int x2), some (.int x3), none]) (st1 := [.int x3, .ref 27]) rfl ?_
        obtain ⟨hb34, hb35, h⟩ := h
        refine gk_W_c (i := .invokevirtual 210) [.int (f_179 w x3)] 47 rfl rfl (c_v (a := 26) hS ly_26 rfl rfl (Nat.le_of_ble_eq_true rfl)) (f_179_E hS x3 hb34 hb35) rfl rfl ?_
        refine gk_W_b 1 ((f_179 w x3) = 0) (t := 54) (e := 50) (l1 := [some (.ref 27), some (.int 1), some (.int x2), some (.int x3), none]) (st1 := []) rfl (fun hp36 => ?_) (fun hp36 => ?_)
        · have h := h.1 hp36
          refine gk_W_s 4 (pc1 := 11) (l1 := [some (.ref 27), some (.int 1), some (.int 0), some (.int (x3 + 1)), none]) (st1 := []) rfl ?_
          exact h
        · have h := h.2 hp36
          refine gk_W_s 5 (pc1 := 11) (l1 := [some (.ref 27), some (.int 1), some (.int 1), some (.int (x3 + 1)), none]) (st1 := []) rfl ?_
          exact h
    · have h := h.2 (Decidable.not_not.mp hp32)
      refine gk_W_s 1 (pc1 := 24) (l1 := [some (.ref 27), some (.int x1), some (.int x2), some (.int x3), none]) (st1 := [.ref 27]) rfl ?_
      refine gk_W_h (i := .getfield 21) 27 rfl rfl (h_gr (a := 26) (k := 6) (m := 30) hS ly_26 rfl) rfl ?_
      refine gk_W_s 1 (pc1 := 28) (l1 := [some (.ref 27), some (.int x1), some (.int x2), some (.int x3), none]) (st1 := [.int x3, .ref 30]) rfl ?_
      obtain ⟨hb37, h⟩ := h
      refine gk_W_h (i := .iaload) 29 rfl rfl (h_al (a := 29) (scr := none) hS ly_29 hb37) rfl ?_
      refine gk_W_b 1 (¬ ((w_a w 29).getD x3.toNatClampNeg 0) = 0) (t := 36) (e := 32) (l1 := [some (.ref 27), some (.int x1), some (.int x2), some (.int x3), none]) (st1 := []) rfl (fun hp38 => ?_) (fun hp38 => ?_)
      · have h := h.1 hp38
        refine gk_W_b 4 (¬ x2 = 0) (t := 50) (e := 42) (l1 := [some (.ref 27), some (.int 0), some (.int x2), some (.int x3), none]) (st1 := []) rfl (fun hp39 => ?_) (fun hp39 => ?_)
        · have h := h.1 hp39
          refine gk_W_s 5 (pc1 := 11) (l1 := [some (.ref 27), some (.int 0), some (.int 1), some (.int (x3 + 1)), none]) (st1 := []) rfl ?_
          exact h
        · have h := h.2 (Decidable.not_not.mp hp39)
          refine gk_W_s 2 (pc1 := 44) (l1 := [some (.ref 27), some (.int 0), some (.int x2), some (.int x3), none]) (st1 := [.int x3, .ref 27]) rfl ?_
          obtain ⟨hb40, hb41, h⟩ := h
          refine gk_W_c (i := .invokevirtual 210) [.int (f_179 w x3)] 47 rfl rfl (c_v (a := 26) hS ly_26 rfl rfl (Nat.le_of_ble_eq_true rfl)) (f_179_E hS x3 hb40 hb41) rfl rfl ?_
          refine gk_W_b 1 ((f_179 w x3) = 0) (t := 54) (e := 50) (l1 := [some (.ref 27), some (.int 0), some (.int x2), some (.int x3), none]) (st1 := []) rfl (fun hp42 => ?_) (fun hp42 => ?_)
          · have h := h.1 hp42
            refine gk_W_s 4 (pc1 := 11) (l1 := [some (.ref 27), some (.int 0), some (.int 0), some (.int (x3 + 1)), none]) (st1 := []) rfl ?_
            exact h
          · have h := h.2 hp42
            refine gk_W_s 5 (pc1 := 11) (l1 := [some (.ref 27), some (.int 0), some (.int 1), some (.int (x3 + 1)), none]) (st1 := []) rfl ?_
            exact h
      · have h := h.2 (Decidable.not_not.mp hp38)
        refine gk_W_b 5 (¬ x2 = 0) (t := 50) (e := 42) (l1 := [some (.ref 27), some (.int 1), some (.int x2), some (.int x3), none]) (st1 := []) rfl (fun hp43 => ?_) (fun hp43 => ?_)
        · have h := h.1 hp43
          refine gk_W_s 5 (pc1 := 11) (l1 := [some (.ref 27), some (.int 1), some (.int 1), some (.int (x3 + 1)), none]) (st1 := []) rfl ?_
          exact h
        · have h := h.2 (Decidable.not_not.mp hp43)
          refine gk_W_s 2 (pc1 := 44) (l1 := [some (.ref 27), some (.int 1), some (.int x2), some (.int x3), none]) (st1 := [.int x3, .ref 27]) rfl ?_
          obtain ⟨hb44, hb45, h⟩ := h
          refine gk_W_c (i := .invokevirtual 210) [.int (f_179 w x3)] 47 rfl rfl (c_v (a := 26) hS ly_26 rfl rfl (Nat.le_of_ble_eq_true rfl)) (f_179_E hS x3 hb44 hb45) rfl rfl ?_
          refine gk_W_b 1 ((f_179 w x3) = 0) (t := 54) (e := 50) (l1 := [some (.ref 27), some (.int 1), some (.int x2), some (.int x3), none]) (st1 := []) rfl (fun hp46 => ?_) (fun hp46 => ?_)
          · have h := h.1 hp46
            refine gk_W_s 4 (pc1 := 11) (l1 := [some (.ref 27), some (.int 1), some (.int 0), some (.int (x3 + 1)), none]) (st1 := []) rfl ?_
            exact h
          · have h := h.2 hp46
            refine gk_W_s 5 (pc1 := 11) (l1 := [some (.ref 27), some (.int 1), some (.int 1), some (.int (x3 + 1)), none]) (st1 := []) rfl ?_
            exact h
set_option maxRecDepth 8000 in
/-- GrammarDeskModel.isForm()Z, at 0 -/
theorem sg_191_0 {d : Nat} {rr : List gk_S} {w w' : gk_Wd} {r : gk_Res} (hS : gk_Sh rr w)
    (h : gk_W none (d + 1) 191 4 [some (.ref 27), some (.int 1), some (.int 0), none] [] w r w') :
    gk_W none (d + 1) 191 0 [some (.ref 27), none, none, none] [] w r w' := by
  refine gk_W_s 4 (pc1 := 4) (l1 := [some (.ref 27), some (.int 1), some (.int 0), none]) (st1 := []) rfl ?_
  exact h
set_option maxRecDepth 8000 in
/-- GrammarDeskModel.isForm()Z, at 4 -/
theorem sg_191_4 {d : Nat} {rr : List gk_S} {w w' : gk_Wd} {r : gk_Res} (hS : gk_Sh rr w) (x1 : Int32) (x2 : Int32)
    (h : (((w_i w 26 4) ≤ x2 → (fits .boolean (.int x1) = true ∧ r = .inl (some (.int x1)) ∧ w' = w)) ∧ (¬ ((w_i w 26 4) ≤ x2) → ((x1 = 0 → gk_W none (d + 1) 191 45 [some (.ref 27), some (.int 0), some (.int x2), some (.int 1)] [] w r w') ∧ (¬ (x1 = 0) → (gk_out x2 64 = false ∧ ((((w_a w 29).getD x2.toNatClampNeg 0) ≤ 0 → gk_W none (d + 1) 191 45 [some (.ref 27), some (.int 0), some (.int x2), some (.int 1)] [] w r w') ∧ (¬ (((w_a w 29).getD x2.toNatClampNeg 0) ≤ 0) → ((gk_out ((10 * x2) + 0) 640 = false) ∧ ((¬ (f_163 (f_151 w x2 0)) = 0 → gk_W none (d + 1) 191 45 [some (.ref 27), some (.int 0), some (.int x2), some (.int 1)] [] w r w') ∧ ((f_163 (f_151 w x2 0)) = 0 → gk_W none (d + 1) 191 45 [some (.ref 27), some (.int 1), some (.int x2), some (.int 1)] [] w r w'))))))))))) :
    gk_W none (d + 1) 191 4 [some (.ref 27), some (.int x1), some (.int x2), none] [] w r w' := by
  refine gk_W_s 2 (pc1 := 6) (l1 := [some (.ref 27), some (.int x1), some (.int x2), none]) (st1 := [.ref 27, .int x2]) rfl ?_
  refine gk_W_h (i := .getfield 111) 9 rfl rfl (h_gi (a := 26) (k := 4) hS ly_26 rfl) rfl ?_
  refine gk_W_b 1 ((w_i w 26 4) ≤ x2) (t := 89) (e := 12) (l1 := [some (.ref 27), some (.int x1), some (.int x2), none]) (st1 := []) rfl (fun hp1 => ?_) (fun hp1 => ?_)
  · have h := h.1 hp1
    refine gk_W_s 1 (pc1 := 90) (l1 := [some (.ref 27), some (.int x1), some (.int x2), none]) (st1 := [.int x1]) rfl ?_
    obtain ⟨hf, rfl, rfl⟩ := h
    exact gk_W_r (i := .ireturn) rfl rfl (gk_ret_f hf)
  · have h := h.2 hp1
    refine gk_W_b 2 (x1 = 0) (t := 41) (e := 16) (l1 := [some (.ref 27), some (.int x1), some (.int x2), none]) (st1 := []) rfl (fun hp2 => ?_) (fun hp2 => ?_)
    · have h := h.1 hp2
      refine gk_W_s 4 (pc1 := 45) (l1 := [some (.ref 27), some (.int 0), some (.int x2), some (.int 1)]) (st1 := []) rfl ?_
      exact h
    · have h := h.2 hp2
      refine gk_W_s 1 (pc1 := 17) (l1 := [some (.ref 27), some (.int x1), some (.int x2), none]) (st1 := [.ref 27]) rfl ?_
      refine gk_W_h (i := .getfield 21) 20 rfl rfl (h_gr (a := 26) (k := 6) (m := 30) hS ly_26 rfl) rfl ?_
      refine gk_W_s 1 (pc1 := 21) (l1 := [some (.ref 27), some (.int x1), some (.int x2), none]) (st1 := [.int x2, .ref 30]) rfl ?_
      obtain ⟨hb3, h⟩ := h
      refine gk_W_h (i := .iaload) 22 rfl rfl (h_al (a := 29) (scr := none) hS ly_29 hb3) rfl ?_
      refine gk_W_b 1 (((w_a w 29).getD x2.toNatClampNeg 0) ≤ 0) (t := 41) (e := 25) (l1 := [some (.ref 27), some (.int x1), some (.int x2), none]) (st1 := []) rfl (fun hp4 => ?_) (fun hp4 => ?_)
      · have h := h.1 hp4
        refine gk_W_s 4 (pc1 := 45) (l1 := [some (.ref 27), some (.int 0), some (.int x2), some (.int 1)]) (st1 := []) rfl ?_
        exact h
      · have h := h.2 hp4
        refine gk_W_s 3 (pc1 := 28) (l1 := [some (.ref 27), some (.int x1), some (.int x2), none]) (st1 := [.int 0, .int x2, .ref 27]) rfl ?_
        obtain ⟨hb5, h⟩ := h
        refine gk_W_c (i := .invokevirtual 103) [.int (f_151 w x2 0)] 31 rfl rfl (c_v (a := 26) hS ly_26 rfl rfl (Nat.le_of_ble_eq_true rfl)) (f_151_E hS x2 0 hb5) rfl rfl ?_
        refine gk_W_c (i := .invokestatic 166) [.int (f_163 (f_151 w x2 0))] 34 rfl rfl rfl (f_163_E (f_151 w x2 0)) rfl rfl ?_
        refine gk_W_b 1 (¬ (f_163 (f_151 w x2 0)) = 0) (t := 41) (e := 37) (l1 := [some (.ref 27), some (.int x1), some (.int x2), none]) (st1 := []) rfl (fun hp6 => ?_) (fun hp6 => ?_)
        · have h := h.1 hp6
          refine gk_W_s 4 (pc1 := 45) (l1 := [some (.ref 27), some (.int 0), some (.int x2), some (.int 1)]) (st1 := []) rfl ?_
          exact h
        · have h := h.2 (Decidable.not_not.mp hp6)
          refine gk_W_s 5 (pc1 := 45) (l1 := [some (.ref 27), some (.int 1), some (.int x2), some (.int 1)]) (st1 := []) rfl ?_
          exact h
set_option maxRecDepth 8000 in
/-- GrammarDeskModel.isForm()Z, at 45 -/
theorem sg_191_45 {d : Nat} {rr : List gk_S} {w w' : gk_Wd} {r : gk_Res} (hS : gk_Sh rr w) (x1 : Int32) (x2 : Int32) (x3 : Int32)
    (h : (gk_out x2 64 = false ∧ ((((w_a w 29).getD x2.toNatClampNeg 0) ≤ x3 → gk_W none (d + 1) 191 4 [some (.ref 27), some (.int x1), some (.int (x2 + 1)), none] [] w r w') ∧ (¬ (((w_a w 29).getD x2.toNatClampNeg 0) ≤ x3) → ((x1 = 0 → gk_W none (d + 1) 191 45 [some (.ref 27), some (.int 0), some (.int x2), some (.int (x3 + 1))] [] w r w') ∧ (¬ (x1 = 0) → ((gk_out ((10 * x2) + x3) 640 = false) ∧ (((f_163 (f_151 w x2 x3)) = 0 → gk_W none (d + 1) 191 45 [some (.ref 27), some (.int 0), some (.int x2), some (.int (x3 + 1))] [] w r w') ∧ (¬ ((f_163 (f_151 w x2 x3)) = 0) → gk_W none (d + 1) 191 45 [some (.ref 27), some (.int 1), some (.int x2), some (.int (x3 + 1))] [] w r w'))))))))) :
    gk_W none (d + 1) 191 45 [some (.ref 27), some (.int x1), some (.int x2), some (.int x3)] [] w r w' := by
  refine gk_W_s 2 (pc1 := 47) (l1 := [some (.ref 27), some (.int x1), some (.int x2), some (.int x3)]) (st1 := [.ref 27, .int x3]) rfl ?_
  refine gk_W_h (i := .getfield 21) 50 rfl rfl (h_gr (a := 26) (k := 6) (m := 30) hS ly_26 rfl) rfl ?_
  refine gk_W_s 1 (pc1 := 51) (l1 := [some (.ref 27), some (.int x1), some (.int x2), some (.int x3)]) (st1 := [.int x2, .ref 30, .int x3]) rfl ?_
  obtain ⟨hb1, h⟩ := h
  refine gk_W_h (i := .iaload) 52 rfl rfl (h_al (a := 29) (scr := none) hS ly_29 hb1) rfl ?_
  refine gk_W_b 1 (((w_a w 29).getD x2.toNatClampNeg 0) ≤ x3) (t := 83) (e := 55) (l1 := [some (.ref 27), some (.int x1), some (.int x2), some (.int x3)]) (st1 := []) rfl (fun hp2 => ?_) (fun hp2 => ?_)
  · have h := h.1 hp2
    refine gk_W_s 2 (pc1 := 4) (l1 := [some (.ref 27), some (.int x1), some (.int (x2 + 1)), some (.int x3)]) (st1 := []) rfl ?_
    exact gk_W_le (gk_le_s (gk_le_s (gk_le_s (gk_le_n (gk_le_0))))) h
  · have h := h.2 hp2
    refine gk_W_b 2 (x1 = 0) (t := 75) (e := 59) (l1 := [some (.ref 27), some (.int x1), some (.int x2), some (.int x3)]) (st1 := []) rfl (fun hp3 => ?_) (fun hp3 => ?_)
    · have h := h.1 hp3
      refine gk_W_s 4 (pc1 := 45) (l1 := [some (.ref 27), some (.int 0), some (.int x2), some (.int (x3 + 1))]) (st1 := []) rfl ?_
      exact h
    · have h := h.2 hp3
      refine gk_W_s 3 (pc1 := 62) (l1 := [some (.ref 27), some (.int x1), some (.int x2), some (.int x3)]) (st1 := [.int x3, .int x2, .ref 27]) rfl ?_
      obtain ⟨hb4, h⟩ := h
      refine gk_W_c (i := .invokevirtual 103) [.int (f_151 w x2 x3)] 65 rfl rfl (c_v (a := 26) hS ly_26 rfl rfl (Nat.le_of_ble_eq_true rfl)) (f_151_E hS x2 x3 hb4) rfl rfl ?_
      refine gk_W_c (i := .invokestatic 166) [.int (f_163 (f_151 w x2 x3))] 68 rfl rfl rfl (f_163_E (f_151 w x2 x3)) rfl rfl ?_
      refine gk_W_b 1 ((f_163 (f_151 w x2 x3)) = 0) (t := 75) (e := 71) (l1 := [some (.ref 27), some (.int x1), some (.int x2), some (.int x3)]) (st1 := []) rfl (fun hp5 => ?_) (fun hp5 => ?_)
      · have h := h.1 hp5
        refine gk_W_s 4 (pc1 := 45) (l1 := [some (.ref 27), some (.int 0), some (.int x2), some (.int (x3 + 1))]) (st1 := []) rfl ?_
        exact h
      · have h := h.2 hp5
        refine gk_W_s 5 (pc1 := 45) (l1 := [some (.ref 27), some (.int 1), some (.int x2), some (.int (x3 + 1))]) (st1 := []) rfl ?_
        exact h
set_option maxRecDepth 8000 in
/-- GrammarDeskModel.isEndless()Z, at 0 -/
theorem sg_193_0 {d : Nat} {rr : List gk_S} {w w' : gk_Wd} {r : gk_Res} (hS : gk_Sh rr w)
    (h : (∃ (w2 : gk_Wd), gk_E d 194 [.ref 27] w (.inl none) w2 ∧ gk_Sh rr w2 ∧ gk_W none (d + 1) 193 6 [some (.ref 27), some (.int 0), none, none, none, none] [] w2 r w')) :
    gk_W none (d + 1) 193 0 [some (.ref 27), none, none, none, none, none] [] w r w' := by
  refine gk_W_s 1 (pc1 := 1) (l1 := [some (.ref 27), none, none, none, none, none]) (st1 := [.ref 27]) rfl ?_
  obtain ⟨w2, hE1, hS3, h⟩ := h
  refine gk_W_c (i := .invokevirtual 249) [] 4 rfl rfl (c_v (a := 26) hS ly_26 rfl rfl (Nat.le_of_ble_eq_true rfl)) hE1 rfl rfl ?_
  refine gk_W_s 2 (pc1 := 6) (l1 := [some (.ref 27), some (.int 0), none, none, none, none]) (st1 := []) rfl ?_
  exact h
set_option maxRecDepth 8000 in
/-- GrammarDeskModel.isEndless()Z, at 6 -/
theorem sg_193_6 {d : Nat} {rr : List gk_S} {w w' : gk_Wd} {r : gk_Res} (hS : gk_Sh rr w) (x1 : Int32)
    (h : ((256 ≤ x1 → gk_W none (d + 1) 193 43 [some (.ref 27), some (.int 0), none, none, none, none] [] w r w') ∧ (¬ (256 ≤ x1) → ((¬ (x1 / 16) = (x1 - x1 / 16 * 16) → (gk_out x1 256 = false ∧ gk_W none (d + 1) 193 6 [some (.ref 27), some (.int (x1 + 1)), none, none, none, none] [] (w_sa w 40 ((w_a w 40).set x1.toNatClampNeg 0)) r w')) ∧ ((x1 / 16) = (x1 - x1 / 16 * 16) → (gk_out x1 256 = false ∧ gk_W none (d + 1) 193 6 [some (.ref 27), some (.int (x1 + 1)), none, none, none, none] [] (w_sa w 40 ((w_a w 40).set x1.toNatClampNeg 1)) r w')))))) :
    gk_W none (d + 1) 193 6 [some (.ref 27), some (.int x1), none, none, none, none] [] w r w' := by
  refine gk_W_b 3 (256 ≤ x1) (t := 41) (e := 13) (l1 := [some (.ref 27), some (.int x1), none, none, none, none]) (st1 := []) rfl (fun hp1 => ?_) (fun hp1 => ?_)
  · have h := h.1 hp1
    refine gk_W_s 2 (pc1 := 43) (l1 := [some (.ref 27), some (.int 0), none, none, none, none]) (st1 := []) rfl ?_
    exact h
  · have h := h.2 hp1
    refine gk_W_s 1 (pc1 := 14) (l1 := [some (.ref 27), some (.int x1), none, none, none, none]) (st1 := [.ref 27]) rfl ?_
    refine gk_W_h (i := .getfield 55) 17 rfl rfl (h_gr (a := 26) (k := 21) (m := 41) hS ly_26 rfl) rfl ?_
    refine gk_W_b 8 (¬ (x1 / 16) = (x1 - x1 / 16 * 16)) (t := 33) (e := 29) (l1 := [some (.ref 27), some (.int x1), none, none, none, none]) (st1 := [.int x1, .ref 41]) rfl (fun hp2 => ?_) (fun hp2 => ?_)
    · have h := h.1 hp2
      refine gk_W_s 1 (pc1 := 34) (l1 := [some (.ref 27), some (.int x1), none, none, none, none]) (st1 := [.int 0, .int x1, .ref 41]) rfl ?_
      obtain ⟨hb3, h⟩ := h
      refine gk_W_h (i := .bastore) 35 rfl rfl (h_as (a := 40) (t := 2) hS ly_40 hb3 rfl) rfl ?_
      refine gk_W_s 2 (pc1 := 6) (l1 := [some (.ref 27), some (.int (x1 + 1)), none, none, none, none]) (st1 := []) rfl ?_
      exact h
    · have h := h.2 (Decidable.not_not.mp hp2)
      refine gk_W_s 2 (pc1 := 34) (l1 := [some (.ref 27), some (.int x1), none, none, none, none]) (st1 := [.int 1, .int x1, .ref 41]) rfl ?_
      obtain ⟨hb4, h⟩ := h
      refine gk_W_h (i := .bastore) 35 rfl rfl (h_as (a := 40) (t := 2) hS ly_40 hb4 rfl) rfl ?_
      refine gk_W_s 2 (pc1 := 6) (l1 := [some (.ref 27), some (.int (x1 + 1)), none, none, none, none]) (st1 := []) rfl ?_
      exact h
set_option maxRecDepth 8000 in
/-- GrammarDeskModel.isEndless()Z, at 43 -/
theorem sg_193_43 {d : Nat} {rr : List gk_S} {w w' : gk_Wd} {r : gk_Res} (hS : gk_Sh rr w) (x1 : Int32)
    (h : ((16 ≤ x1 → gk_W none (d + 1) 193 162 [some (.ref 27), some (.int 0), some (.int 0), none, none, none] [] w r w') ∧ (¬ (16 ≤ x1) → gk_W none (d + 1) 193 51 [some (.ref 27), some (.int x1), some (.int 0), none, none, none] [] w r w'))) :
    gk_W none (d + 1) 193 43 [some (.ref 27), some (.int x1), none, none, none, none] [] w r w' := by
  refine gk_W_b 3 (16 ≤ x1) (t := 158) (e := 49) (l1 := [some (.ref 27), some (.int x1), none, none, none, none]) (st1 := []) rfl (fun hp1 => ?_) (fun hp1 => ?_)
  · have h := h.1 hp1
    refine gk_W_s 4 (pc1 := 162) (l1 := [some (.ref 27), some (.int 0), some (.int 0), none, none, none]) (st1 := []) rfl ?_
    exact h
  · have h := h.2 hp1
    refine gk_W_s 2 (pc1 := 51) (l1 := [some (.ref 27), some (.int x1), some (.int 0), none, none, none]) (st1 := []) rfl ?_
    exact h
set_option maxRecDepth 8000 in
/-- GrammarDeskModel.isEndless()Z, at 51 -/
theorem sg_193_51 {d : Nat} {rr : List gk_S} {w w' : gk_Wd} {r : gk_Res} (hS : gk_Sh rr w) (x1 : Int32) (x2 : Int32)
    (h : (((w_i w 26 4) ≤ x2 → gk_W none (d + 1) 193 43 [some (.ref 27), some (.int (x1 + 1)), none, none, none, none] [] w r w') ∧ (¬ ((w_i w 26 4) ≤ x2) → gk_W none (d + 1) 193 61 [some (.ref 27), some (.int x1), some (.int x2), some (.int 0), none, none] [] w r w'))) :
    gk_W none (d + 1) 193 51 [some (.ref 27), some (.int x1), some (.int x2), none, none, none] [] w r w' := by
  refine gk_W_s 2 (pc1 := 53) (l1 := [some (.ref 27), some (.int x1), some (.int x2), none, none, none]) (st1 := [.ref 27, .int x2]) rfl ?_
  refine gk_W_h (i := .getfield 111) 56 rfl rfl (h_gi (a := 26) (k := 4) hS ly_26 rfl) rfl ?_
  refine gk_W_b 1 ((w_i w 26 4) ≤ x2) (t := 152) (e := 59) (l1 := [some (.ref 27), some (.int x1), some (.int x2), none, none, none]) (st1 := []) rfl (fun hp1 => ?_) (fun hp1 => ?_)
  · have h := h.1 hp1
    refine gk_W_s 2 (pc1 := 43) (l1 := [some (.ref 27), some (.int (x1 + 1)), some (.int x2), none, none, none]) (st1 := []) rfl ?_
    exact gk_W_le (gk_le_s (gk_le_s (gk_le_n (gk_le_s (gk_le_s (gk_le_s (gk_le_0))))))) h
  · have h := h.2 hp1
    refine gk_W_s 2 (pc1 := 61) (l1 := [some (.ref 27), some (.int x1), some (.int x2), some (.int 0), none, none]) (st1 := []) rfl ?_
    exact h
set_option maxRecDepth 8000 in
/-- GrammarDeskModel.isEndless()Z, at 61 -/
theorem sg_193_61 {d : Nat} {rr : List gk_S} {w w' : gk_Wd} {r : gk_Res} (hS : gk_Sh rr w) (x1 : Int32) (x2 : Int32) (x3 : Int32)
    (h : (gk_out x2 64 = false ∧ ((((w_a w 29).getD x2.toNatClampNeg 0) ≤ x3 → gk_W none (d + 1) 193 51 [some (.ref 27), some (.int x1), some (.int (x2 + 1)), none, none, none] [] w r w') ∧ (¬ (((w_a w 29).getD x2.toNatClampNeg 0) ≤ x3) → ((gk_out ((10 * x2) + x3) 640 = false) ∧ ((¬ (f_163 (f_151 w x2 x3)) = 0 → gk_W none (d + 1) 193 89 [some (.ref 27), some (.int x1), some (.int x2), some (.int x3), some (.int 0), none] [] w r w') ∧ ((f_163 (f_151 w x2 x3)) = 0 → gk_W none (d + 1) 193 61 [some (.ref 27), some (.int x1), some (.int x2), some (.int (x3 + 1)), none, none] [] w r w'))))))) :
    gk_W none (d + 1) 193 61 [some (.ref 27), some (.int x1), some (.int x2), some (.int x3), none, none] [] w r w' := by
  refine gk_W_s 2 (pc1 := 63) (l1 := [some (.ref 27), some (.int x1), some (.int x2), some (.int x3), none, none]) (st1 := [.ref 27, .int x3]) rfl ?_
  refine gk_W_h (i := .getfield 21) 66 rfl rfl (h_gr (a := 26) (k := 6) (m := 30) hS ly_26 rfl) rfl ?_
  refine gk_W_s 1 (pc1 := 67) (l1 := [some (.ref 27), some (.int x1), some (.int x2), some (.int x3), none, none]) (st1 := [.int x2, .ref 30, .int x3]) rfl ?_
  obtain ⟨hb1, h⟩ := h
  refine gk_W_h (i := .iaload) 68 rfl rfl (h_al (a := 29) (scr := none) hS ly_29 hb1) rfl ?_
  refine gk_W_b 1 (((w_a w 29).getD x2.toNatClampNeg 0) ≤ x3) (t := 146) (e := 71) (l1 := [some (.ref 27), some (.int x1), some (.int x2), some (.int x3), none, none]) (st1 := []) rfl (fun hp2 => ?_) (fun hp2 => ?_)
  · have h := h.1 hp2
    refine gk_W_s 2 (pc1 := 51) (l1 := [some (.ref 27), some (.int x1), some (.int (x2 + 1)), some (.int x3), none, none]) (st1 := []) rfl ?_
    exact gk_W_le (gk_le_s (gk_le_s (gk_le_s (gk_le_n (gk_le_s (gk_le_s (gk_le_0))))))) h
  · have h := h.2 hp2
    refine gk_W_s 3 (pc1 := 74) (l1 := [some (.ref 27), some (.int x1), some (.int x2), some (.int x3), none, none]) (st1 := [.int x3, .int x2, .ref 27]) rfl ?_
    obtain ⟨hb3, h⟩ := h
    refine gk_W_c (i := .invokevirtual 103) [.int (f_151 w x2 x3)] 77 rfl rfl (c_v (a := 26) hS ly_26 rfl rfl (Nat.le_of_ble_eq_true rfl)) (f_151_E hS x2 x3 hb3) rfl rfl ?_
    refine gk_W_c (i := .invokestatic 166) [.int (f_163 (f_151 w x2 x3))] 80 rfl rfl rfl (f_163_E (f_151 w x2 x3)) rfl rfl ?_
    refine gk_W_b 1 (¬ (f_163 (f_151 w x2 x3)) = 0) (t := 86) (e := 83) (l1 := [some (.ref 27), some (.int x1), some (.int x2), some (.int x3), none, none]) (st1 := []) rfl (fun hp4 => ?_) (fun hp4 => ?_)
    · have h := h.1 hp4
      refine gk_W_s 2 (pc1 := 89) (l1 := [some (.ref 27), some (.int x1), some (.int x2), some (.int x3), some (.int 0), none]) (st1 := []) rfl ?_
      exact h
    · have h := h.2 (Decidable.not_not.mp hp4)
      refine gk_W_s 3 (pc1 := 61) (l1 := [some (.ref 27), some (.int x1), some (.int x2), some (.int (x3 + 1)), none, none]) (st1 := []) rfl ?_
      exact h
set_option maxRecDepth 8000 in
/-- GrammarDeskModel.isEndless()Z, at 89 -/
theorem sg_193_89 {d : Nat} {rr : List gk_S} {w w' : gk_Wd} {r : gk_Res} (hS : gk_Sh rr w) (x1 : Int32) (x2 : Int32) (x3 : Int32) (x4 : Int32)
    (h : ((16 ≤ x4 → gk_W none (d + 1) 193 61 [some (.ref 27), some (.int x1), some (.int x2), some (.int (x3 + 1)), none, none] [] w r w') ∧ (¬ (16 ≤ x4) → (gk_out x2 64 = false ∧ (gk_out ((16 * x4) + ((w_a w 28).getD x2.toNatClampNeg 0)) 256 = false ∧ ((((w_a w 40).getD ((16 * x4) + ((w_a w 28).getD x2.toNatClampNeg 0)).toNatClampNeg 0) = 0 → gk_W none (d + 1) 193 89 [some (.ref 27), some (.int x1), some (.int x2), some (.int x3), some (.int (x4 + 1)), none] [] w r w') ∧ (¬ (((w_a w 40).getD ((16 * x4) + ((w_a w 28).getD x2.toNatClampNeg 0)).toNatClampNeg 0) = 0) → ((gk_out ((10 * x2) + x3) 640 = false) ∧ (gk_out ((16 * x4) + (f_151 w x2 x3)) 256 = false ∧ gk_W none (d + 1) 193 89 [some (.ref 27), some (.int x1), some (.int x2), some (.int x3), some (.int (x4 + 1)), none] [] (w_sa w 40 ((w_a w 40).set ((16 * x4) + (f_151 w x2 x3)).toNatClampNeg 1)) r w'))))))))) :
    gk_W none (d + 1) 193 89 [some (.ref 27), some (.int x1), some (.int x2), some (.int x3), some (.int x4), none] [] w r w' := by
  refine gk_W_b 3 (16 ≤ x4) (t := 140) (e := 96) (l1 := [some (.ref 27), some (.int x1), some (.int x2), some (.int x3), some (.int x4), none]) (st1 := []) rfl (fun hp1 => ?_) (fun hp1 => ?_)
  · have h := h.1 hp1
    refine gk_W_s 2 (pc1 := 61) (l1 := [some (.ref 27), some (.int x1), some (.int x2), some (.int (x3 + 1)), some (.int x4), none]) (st1 := []) rfl ?_
    exact gk_W_le (gk_le_s (gk_le_s (gk_le_s (gk_le_s (gk_le_n (gk_le_s (gk_le_0))))))) h
  · have h := h.2 hp1
    refine gk_W_s 1 (pc1 := 97) (l1 := [some (.ref 27), some (.int x1), some (.int x2), some (.int x3), some (.int x4), none]) (st1 := [.ref 27]) rfl ?_
    refine gk_W_h (i := .getfield 55) 100 rfl rfl (h_gr (a := 26) (k := 21) (m := 41) hS ly_26 rfl) rfl ?_
    refine gk_W_s 4 (pc1 := 106) (l1 := [some (.ref 27), some (.int x1), some (.int x2), some (.int x3), some (.int x4), none]) (st1 := [.ref 27, .int (16 * x4), .ref 41]) rfl ?_
    refine gk_W_h (i := .getfield 17) 109 rfl rfl (h_gr (a := 26) (k := 5) (m := 29) hS ly_26 rfl) rfl ?_
    refine gk_W_s 1 (pc1 := 110) (l1 := [some (.ref 27), some (.int x1), some (.int x2), some (.int x3), some (.int x4), none]) (st1 := [.int x2, .ref 29, .int (16 * x4), .ref 41]) rfl ?_
    obtain ⟨hb2, h⟩ := h
    refine gk_W_h (i := .iaload) 111 rfl rfl (h_al (a := 28) (scr := none) hS ly_28 hb2) rfl ?_
    refine gk_W_s 1 (pc1 := 112) (l1 := [some (.ref 27), some (.int x1), some (.int x2), some (.int x3), some (.int x4), none]) (st1 := [.int ((16 * x4) + ((w_a w 28).getD x2.toNatClampNeg 0)), .ref 41]) rfl ?_
    obtain ⟨hb3, h⟩ := h
    refine gk_W_h (i := .baload) 113 rfl rfl (h_al (a := 40) (scr := none) hS ly_40 hb3) rfl ?_
    refine gk_W_b 1 (((w_a w 40).getD ((16 * x4) + ((w_a w 28).getD x2.toNatClampNeg 0)).toNatClampNeg 0) = 0) (t := 134) (e := 116) (l1 := [some (.ref 27), some (.int x1), some (.int x2), some (.int x3), some (.int x4), none]) (st1 := []) rfl (fun hp4 => ?_) (fun hp4 => ?_)
    · have h := h.1 hp4
      refine gk_W_s 2 (pc1 := 89) (l1 := [some (.ref 27), some (.int x1), some (.int x2), some (.int x3), some (.int (x4 + 1)), none]) (st1 := []) rfl ?_
      exact h
    · have h := h.2 hp4
      refine gk_W_s 1 (pc1 := 117) (l1 := [some (.ref 27), some (.int x1), some (.int x2), some (.int x3), some (.int x4), none]) (st1 := [.ref 27]) rfl ?_
      refine gk_W_h (i := .getfield 55) 120 rfl rfl (h_gr (a := 26) (k := 21) (m := 41) hS ly_26 rfl) rfl ?_
      refine gk_W_s 6 (pc1 := 128) (l1 := [some (.ref 27), some (.int x1), some (.int x2), some (.int x3), some (.int x4), none]) (st1 := [.int x3, .int x2, .ref 27, .int (16 * x4), .ref 41]) rfl ?_
      obtain ⟨hb5, h⟩ := h
      refine gk_W_c (i := .invokevirtual 103) [.int (f_151 w x2 x3), .int (16 * x4), .ref 41] 131 rfl rfl (c_v (a := 26) hS ly_26 rfl rfl (Nat.le_of_ble_eq_true rfl)) (f_151_E hS x2 x3 hb5) rfl rfl ?_
      refine gk_W_s 2 (pc1 := 133) (l1 := [some (.ref 27), some (.int x1), some (.int x2), some (.int x3), some (.int x4), none]) (st1 := [.int 1, .int ((16 * x4) + (f_151 w x2 x3)), .ref 41]) rfl ?_
      obtain ⟨hb6, h⟩ := h
      refine gk_W_h (i := .bastore) 134 rfl rfl (h_as (a := 40) (t := 2) hS ly_40 hb6 rfl) rfl ?_
      refine gk_W_s 2 (pc1 := 89) (l1 := [some (.ref 27), some (.int x1), some (.int x2), some (.int x3), some (.int (x4 + 1)), none]) (st1 := []) rfl ?_
      exact h
set_option maxRecDepth 8000 in
/-- GrammarDeskModel.isEndless()Z, at 162 -/
theorem sg_193_162 {d : Nat} {rr : List gk_S} {w w' : gk_Wd} {r : gk_Res} (hS : gk_Sh rr w) (x1 : Int32) (x2 : Int32)
    (h : (((w_i w 26 4) ≤ x2 → (fits .boolean (.int x1) = true ∧ r = .inl (some (.int x1)) ∧ w' = w)) ∧ (¬ ((w_i w 26 4) ≤ x2) → gk_W none (d + 1) 193 172 [some (.ref 27), some (.int x1), some (.int x2), some (.int 0), none, none] [] w r w'))) :
    gk_W none (d + 1) 193 162 [some (.ref 27), some (.int x1), some (.int x2), none, none, none] [] w r w' := by
  refine gk_W_s 2 (pc1 := 164) (l1 := [some (.ref 27), some (.int x1), some (.int x2), none, none, none]) (st1 := [.ref 27, .int x2]) rfl ?_
  refine gk_W_h (i := .getfield 111) 167 rfl rfl (h_gi (a := 26) (k := 4) hS ly_26 rfl) rfl ?_
  refine gk_W_b 1 ((w_i w 26 4) ≤ x2) (t := 306) (e := 170) (l1 := [some (.ref 27), some (.int x1), some (.int x2), none, none, none]) (st1 := []) rfl (fun hp1 => ?_) (fun hp1 => ?_)
  · have h := h.1 hp1
    refine gk_W_s 1 (pc1 := 307) (l1 := [some (.ref 27), some (.int x1), some (.int x2), none, none, none]) (st1 := [.int x1]) rfl ?_
    obtain ⟨hf, rfl, rfl⟩ := h
    exact gk_W_r (i := .ireturn) rfl rfl (gk_ret_f hf)
  · have h := h.2 hp1
    refine gk_W_s 2 (pc1 := 172) (l1 := [some (.ref 27), some (.int x1), some (.int x2), some (.int 0), none, none]) (st1 := []) rfl ?_
    exact h
set_option maxRecDepth 8000 in
/-- GrammarDeskModel.isEndless()Z, at 172 -/
theorem sg_193_172 {d : Nat} {rr : List gk_S} {w w' : gk_Wd} {r : gk_Res} (hS : gk_Sh rr w) (x1 : Int32) (x2 : Int32) (x3 : Int32)
    (h : (gk_out x2 64 = false ∧ ((((w_a w 29).getD x2.toNatClampNeg 0) ≤ x3 → gk_W none (d + 1) 193 162 [some (.ref 27), some (.int x1), some (.int (x2 + 1)), none, none, none] [] w r w') ∧ (¬ (((w_a w 29).getD x2.toNatClampNeg 0) ≤ x3) → gk_W none (d + 1) 193 188 [some (.ref 27), some (.int x1), some (.int x2), some (.int x3), some (.int 0), some (.int 0)] [] w r w')))) :
    gk_W none (d + 1) 193 172 [some (.ref 27), some (.int x1), some (.int x2), some (.int x3), none, none] [] w r w' := by
  refine gk_W_s 2 (pc1 := 174) (l1 := [some (.ref 27), some (.int x1), some (.int x2), some (.int x3), none, none]) (st1 := [.ref 27, .int x3]) rfl ?_
  refine gk_W_h (i := .getfield 21) 177 rfl rfl (h_gr (a := 26) (k := 6) (m := 30) hS ly_26 rfl) rfl ?_
  refine gk_W_s 1 (pc1 := 178) (l1 := [some (.ref 27), some (.int x1), some (.int x2), some (.int x3), none, none]) (st1 := [.int x2, .ref 30, .int x3]) rfl ?_
  obtain ⟨hb1, h⟩ := h
  refine gk_W_h (i := .iaload) 179 rfl rfl (h_al (a := 29) (scr := none) hS ly_29 hb1) rfl ?_
  refine gk_W_b 1 (((w_a w 29).getD x2.toNatClampNeg 0) ≤ x3) (t := 300) (e := 182) (l1 := [some (.ref 27), some (.int x1), some (.int x2), some (.int x3), none, none]) (st1 := []) rfl (fun hp2 => ?_) (fun hp2 => ?_)
  · have h := h.1 hp2
    refine gk_W_s 2 (pc1 := 162) (l1 := [some (.ref 27), some (.int x1), some (.int (x2 + 1)), some (.int x3), none, none]) (st1 := []) rfl ?_
    exact gk_W_le (gk_le_s (gk_le_s (gk_le_s (gk_le_n (gk_le_s (gk_le_s (gk_le_0))))))) h
  · have h := h.2 hp2
    refine gk_W_s 4 (pc1 := 188) (l1 := [some (.ref 27), some (.int x1), some (.int x2), some (.int x3), some (.int 0), some (.int 0)]) (st1 := []) rfl ?_
    exact h
set_option maxRecDepth 8000 in
/-- GrammarDeskModel.isEndless()Z, at 188 -/
theorem sg_193_188 {d : Nat} {rr : List gk_S} {w w' : gk_Wd} {r : gk_Res} (hS : gk_Sh rr w) (x1 : Int32) (x2 : Int32) (x3 : Int32) (x4 : Int32) (x5 : Int32)
    (h : (gk_out x2 64 = false ∧ ((((w_a w 29).getD x2.toNatClampNeg 0) ≤ x5 → ((gk_out ((10 * x2) + x3) 640 = false) ∧ (((f_163 (f_151 w x2 x3)) = 0 → gk_W none (d + 1) 193 172 [some (.ref 27), some (.int x1), some (.int x2), some (.int (x3 + 1)), none, none] [] w r w') ∧ (¬ ((f_163 (f_151 w x2 x3)) = 0) → ((x4 = 0 → gk_W none (d + 1) 193 172 [some (.ref 27), some (.int x1), some (.int x2), some (.int (x3 + 1)), none, none] [] w r w') ∧ (¬ (x4 = 0) → ((gk_out ((10 * x2) + x3) 640 = false) ∧ (gk_out x2 64 = false ∧ (gk_out ((16 * (f_151 w x2 x3)) + ((w_a w 28).getD x2.toNatClampNeg 0)) 256 = false ∧ ((((w_a w 40).getD ((16 * (f_151 w x2 x3)) + ((w_a w 28).getD x2.toNatClampNeg 0)).toNatClampNeg 0) = 0 → gk_W none (d + 1) 193 172 [some (.ref 27), some (.int x1), some (.int x2), some (.int (x3 + 1)), none, none] [] w r w') ∧ (¬ (((w_a w 40).getD ((16 * (f_151 w x2 x3)) + ((w_a w 28).getD x2.toNatClampNeg 0)).toNatClampNeg 0) = 0) → gk_W none (d + 1) 193 172 [some (.ref 27), some (.int 1), some (.int x2), some (.int (x3 + 1)), none, none] [] w r w'))))))))))) ∧ (¬ (((w_a w 29).getD x2.toNatClampNeg 0) ≤ x5) → ((¬ x4 = 0 → gk_W none (d + 1) 193 188 [some (.ref 27), some (.int x1), some (.int x2), some (.int x3), some (.int 1), some (.int (x5 + 1))] [] w r w') ∧ (x4 = 0 → ((x5 = x3 → gk_W none (d + 1) 193 188 [some (.ref 27), some (.int x1), some (.int x2), some (.int x3), some (.int 0), some (.int (x5 + 1))] [] w r w') ∧ (¬ (x5 = x3) → ((gk_out ((10 * x2) + x5) 640 = false) ∧ (((f_163 (f_151 w x2 x5)) = 0 → gk_W none (d + 1) 193 188 [some (.ref 27), some (.int x1), some (.int x2), some (.int x3), some (.int 1), some (.int (x5 + 1))] [] w r w') ∧ (¬ ((f_163 (f_151 w x2 x5)) = 0) → ((gk_out ((10 * x2) + x5) 640 = false) ∧ (gk_out (f_151 w x2 x5) 16 = false ∧ ((((w_a w 39).getD (f_151 w x2 x5).toNatClampNeg 0) = 0 → gk_W none (d + 1) 193 188 [some (.ref 27), some (.int x1), some (.int x2), some (.int x3), some (.int 0), some (.int (x5 + 1))] [] w r w') ∧ (¬ (((w_a w 39).getD (f_151 w x2 x5).toNatClampNeg 0) = 0) → gk_W none (d + 1) 193 188 [some (.ref 27), some (.int x1), some (.int x2), some (.int x3), some (.int 1), some (.int (x5 + 1))] [] w r w'))))))))))))))) :
    gk_W none (d + 1) 193 188 [some (.ref 27), some (.int x1), some (.int x2), some (.int x3), some (.int x4), some (.int x5)] [] w r w' := by
  refine gk_W_s 2 (pc1 := 191) (l1 := [some (.ref 27), some (.int x1), some (.int x2), some (.int x3), some (.int x4), some (.int x5)]) (st1 := [.ref 27, .int x5]) rfl ?_
  refine gk_W_h (i := .getfield 21) 194 rfl rfl (h_gr (a := 26) (k := 6) (m := 30) hS ly_26 rfl) rfl ?_
  refine gk_W_s 1 (pc1 := 195) (l1 := [some (.ref 27), some (.int x1), some (.int x2), some (.int x3), some (.int x4), some (.int x5)]) (st1 := [.int x2, .ref 30, .int x5]) rfl ?_
  obtain ⟨hb1, h⟩ := h
  refine gk_W_h (i := .iaload) 196 rfl rfl (h_al (a := 29) (scr := none) hS ly_29 hb1) rfl ?_
  refine gk_W_b 1 (((w_a w 29).getD x2.toNatClampNeg 0) ≤ x5) (t := 251) (e := 199) (l1 := [some (.ref 27), some (.int x1), some (.int x2), some (.int x3), some (.int x4), some (.int x5)]) (st1 := []) rfl (fun hp2 => ?_) (fun hp2 => ?_)
  · have h := h.1 hp2
    refine gk_W_s 3 (pc1 := 254) (l1 := [some (.ref 27), some (.int x1), some (.int x2), some (.int x3), some (.int x4), some (.int x5)]) (st1 := [.int x3, .int x2, .ref 27]) rfl ?_
    obtain ⟨hb3, h⟩ := h
    refine gk_W_c (i := .invokevirtual 103) [.int (f_151 w x2 x3)] 257 rfl rfl (c_v (a := 26) hS ly_26 rfl rfl (Nat.le_of_ble_eq_true rfl)) (f_151_E hS x2 x3 hb3) rfl rfl ?_
    refine gk_W_c (i := .invokestatic 166) [.int (f_163 (f_151 w x2 x3))] 260 rfl rfl rfl (f_163_E (f_151 w x2 x3)) rfl rfl ?_
    refine gk_W_b 1 ((f_163 (f_151 w x2 x3)) = 0) (t := 294) (e := 263) (l1 := [some (.ref 27), some (.int x1), some (.int x2), some (.int x3), some (.int x4), some (.int x5)]) (st1 := []) rfl (fun hp4 => ?_) (fun hp4 => ?_)
    · have h := h.1 hp4
      refine gk_W_s 2 (pc1 := 172) (l1 := [some (.ref 27), some (.int x1), some (.int x2), some (.int (x3 + 1)), some (.int x4), some (.int x5)]) (st1 := []) rfl ?_
      exact gk_W_le (gk_le_s (gk_le_s (gk_le_s (gk_le_s (gk_le_n (gk_le_n (gk_le_0))))))) h
    · have h := h.2 hp4
      refine gk_W_b 2 (x4 = 0) (t := 294) (e := 268) (l1 := [some (.ref 27), some (.int x1), some (.int x2), some (.int x3), some (.int x4), some (.int x5)]) (st1 := []) rfl (fun hp5 => ?_) (fun hp5 => ?_)
      · have h := h.1 hp5
        refine gk_W_s 2 (pc1 := 172) (l1 := [some (.ref 27), some (.int x1), some (.int x2), some (.int (x3 + 1)), some (.int x4), some (.int x5)]) (st1 := []) rfl ?_
        exact gk_W_le (gk_le_s (gk_le_s (gk_le_s (gk_le_s (gk_le_n (gk_le_n (gk_le_0))))))) h
      · have h := h.2 hp5
        refine gk_W_s 1 (pc1 := 269) (l1 := [some (.ref 27), some (.int x1), some (.int x2), some (.int x3), some (.int x4), some (.int x5)]) (st1 := [.ref 27]) rfl ?_
        refine gk_W_h (i := .getfield 55) 272 rfl rfl (h_gr (a := 26) (k := 21) (m := 41) hS ly_26 rfl) rfl ?_
        refine gk_W_s 4 (pc1 := 277) (l1 := [some (.ref 27), some (.int x1), some (.int x2), some (.int x3), some (.int x4), some (.int x5)]) (st1 := [.int x3, .int x2, .ref 27, .int 16, .ref 41]) rfl ?_
        obtain ⟨hb6, h⟩ := h
        refine gk_W_c (i := .invokevirtual 103) [.int (f_151 w x2 x3), .int 16, .ref 41] 280 rfl rfl (c_v (a := 26) hS ly_26 rfl rfl (Nat.le_of_ble_eq_true rfl)) (f_151_E hS x2 x3 hb6) rfl rfl ?_
        refine gk_W_s 2 (pc1 := 282) (l1 := [some (.ref 27), some (.int x1), some (.int x2), some (.int x3), some (.int x4), some (.int x5)]) (st1 := [.ref 27, .int (16 * (f_151 w x2 x3)), .ref 41]) rfl ?_
        refine gk_W_h (i := .getfield 17) 285 rfl rfl (h_gr (a := 26) (k := 5) (m := 29) hS ly_26 rfl) rfl ?_
        refine gk_W_s 1 (pc1 := 286) (l1 := [some (.ref 27), some (.int x1), some (.int x2), some (.int x3), some (.int x4), some (.int x5)]) (st1 := [.int x2, .ref 29, .int (16 * (f_151 w x2 x3)), .ref 41]) rfl ?_
        obtain ⟨hb7, h⟩ := h
        refine gk_W_h (i := .iaload) 287 rfl rfl (h_al (a := 28) (scr := none) hS ly_28 hb7) rfl ?_
        refine gk_W_s 1 (pc1 := 288) (l1 := [some (.ref 27), some (.int x1), some (.int x2), some (.int x3), some (.int x4), some (.int x5)]) (st1 := [.int ((16 * (f_151 w x2 x3)) + ((w_a w 28).getD x2.toNatClampNeg 0)), .ref 41]) rfl ?_
        obtain ⟨hb8, h⟩ := h
        refine gk_W_h (i := .baload) 289 rfl rfl (h_al (a := 40) (scr := none) hS ly_40 hb8) rfl ?_
        refine gk_W_b 1 (((w_a w 40).getD ((16 * (f_151 w x2 x3)) + ((w_a w 28).getD x2.toNatClampNeg 0)).toNatClampNeg 0) = 0) (t := 294) (e := 292) (l1 := [some (.ref 27), some (.int x1), some (.int x2), some (.int x3), some (.int x4), some (.int x5)]) (st1 := []) rfl (fun hp9 => ?_) (fun hp9 => ?_)
        · have h := h.1 hp9
          refine gk_W_s 2 (pc1 := 172) (l1 := [some (.ref 27), some (.int x1), some (.int x2), some (.int (x3 + 1)), some (.int x4), some (.int x5)]) (st1 := []) rfl ?_
          exact gk_W_le (gk_le_s (gk_le_s (gk_le_s (gk_le_s (gk_le_n (gk_le_n (gk_le_0))))))) h
        · have h := h.2 hp9
          refine gk_W_s 4 (pc1 := 172) (l1 := [some (.ref 27), some (.int 1), some (.int x2), some (.int (x3 + 1)), some (.int x4), some (.int x5)]) (st1 := []) rfl ?_
          exact gk_W_le (gk_le_s (gk_le_s (gk_le_s (gk_le_s (gk_le_n (gk_le_n (gk_le_0))))))) h
  · have h := h.2 hp2
    refine gk_W_b 2 (¬ x4 = 0) (t := 238) (e := 204) (l1 := [some (.ref 27), some (.int x1), some (.int x2), some (.int x3), some (.int x4), some (.int x5)]) (st1 := []) rfl (fun hp10 => ?_) (fun hp10 => ?_)
    · have h := h.1 hp10
      refine gk_W_s 5 (pc1 := 188) (l1 := [some (.ref 27), some (.int x1), some (.int x2), some (.int x3), some (.int 1), some (.int (x5 + 1))]) (st1 := []) rfl ?_
      exact h
    · have h := h.2 (Decidable.not_not.mp hp10)
      refine gk_W_b 3 (x5 = x3) (t := 242) (e := 210) (l1 := [some (.ref 27), some (.int x1), some (.int x2), some (.int x3), some (.int x4), some (.int x5)]) (st1 := []) rfl (fun hp11 => ?_) (fun hp11 => ?_)
      · have h := h.1 hp11
        refine gk_W_s 4 (pc1 := 188) (l1 := [some (.ref 27), some (.int x1), some (.int x2), some (.int x3), some (.int 0), some (.int (x5 + 1))]) (st1 := []) rfl ?_
        exact h
      · have h := h.2 hp11
        refine gk_W_s 3 (pc1 := 214) (l1 := [some (.ref 27), some (.int x1), some (.int x2), some (.int x3), some (.int x4), some (.int x5)]) (st1 := [.int x5, .int x2, .ref 27]) rfl ?_
        obtain ⟨hb12, h⟩ := h
        refine gk_W_c (i := .invokevirtual 103) [.int (f_151 w x2 x5)] 217 rfl rfl (c_v (a := 26) hS ly_26 rfl rfl (Nat.le_of_ble_eq_true rfl)) (f_151_E hS x2 x5 hb12) rfl rfl ?_
        refine gk_W_c (i := .invokestatic 166) [.int (f_163 (f_151 w x2 x5))] 220 rfl rfl rfl (f_163_E (f_151 w x2 x5)) rfl rfl ?_
        refine gk_W_b 1 ((f_163 (f_151 w x2 x5)) = 0) (t := 238) (e := 223) (l1 := [some (.ref 27), some (.int x1), some (.int x2), some (.int x3), some (.int x4), some (.int x5)]) (st1 := []) rfl (fun hp13 => ?_) (fun hp13 => ?_)
        · have h := h.1 hp13
          refine gk_W_s 5 (pc1 := 188) (l1 := [some (.ref 27), some (.int x1), some (.int x2), some (.int x3), some (.int 1), some (.int (x5 + 1))]) (st1 := []) rfl ?_
          exact h
        · have h := h.2 hp13
          refine gk_W_s 1 (pc1 := 224) (l1 := [some (.ref 27), some (.int x1), some (.int x2), some (.int x3), some (.int x4), some (.int x5)]) (st1 := [.ref 27]) rfl ?_
          refine gk_W_h (i := .getfield 52) 227 rfl rfl (h_gr (a := 26) (k := 20) (m := 40) hS ly_26 rfl) rfl ?_
          refine gk_W_s 3 (pc1 := 231) (l1 := [some (.ref 27), some (.int x1), some (.int x2), some (.int x3), some (.int x4), some (.int x5)]) (st1 := [.int x5, .int x2, .ref 27, .ref 40]) rfl ?_
          obtain ⟨hb14, h⟩ := h
          refine gk_W_c (i := .invokevirtual 103) [.int (f_151 w x2 x5), .ref 40] 234 rfl rfl (c_v (a := 26) hS ly_26 rfl rfl (Nat.le_of_ble_eq_true rfl)) (f_151_E hS x2 x5 hb14) rfl rfl ?_
          obtain ⟨hb15, h⟩ := h
          refine gk_W_h (i := .baload) 235 rfl rfl (h_al (a := 39) (scr := none) hS ly_39 hb15) rfl ?_
          refine gk_W_b 1 (((w_a w 39).getD (f_151 w x2 x5).toNatClampNeg 0) = 0) (t := 242) (e := 238) (l1 := [some (.ref 27), some (.int x1), some (.int x2), some (.int x3), some (.int x4), some (.int x5)]) (st1 := []) rfl (fun hp16 => ?_) (fun hp16 => ?_)
          · have h := h.1 hp16
            refine gk_W_s 4 (pc1 := 188) (l1 := [some (.ref 27), some (.int x1), some (.int x2), some (.int x3), some (.int 0), some (.int (x5 + 1))]) (st1 := []) rfl ?_
            exact h
          · have h := h.2 hp16
            refine gk_W_s 5 (pc1 := 188) (l1 := [some (.ref 27), some (.int x1), some (.int x2), some (.int x3), some (.int 1), some (.int (x5 + 1))]) (st1 := []) rfl ?_
            exact h
set_option maxRecDepth 8000 in
/-- GrammarDeskModel.findGrows()V, at 0 -/
theorem sg_194_0 {d : Nat} {rr : List gk_S} {w w' : gk_Wd} {r : gk_Res} (hS : gk_Sh rr w)
    (h : gk_W none (d + 1) 194 2 [some (.ref 27), some (.int 0), none, none] [] w r w') :
    gk_W none (d + 1) 194 0 [some (.ref 27), none, none, none] [] w r w' := by
  refine gk_W_s 2 (pc1 := 2) (l1 := [some (.ref 27), some (.int 0), none, none]) (st1 := []) rfl ?_
  exact h
set_option maxRecDepth 8000 in
/-- GrammarDeskModel.findGrows()V, at 2 -/
theorem sg_194_2 {d : Nat} {rr : List gk_S} {w w' : gk_Wd} {r : gk_Res} (hS : gk_Sh rr w) (x1 : Int32)
    (h : ((16 ≤ x1 → gk_W none (d + 1) 194 23 [some (.ref 27), some (.int 0), none, none] [] w r w') ∧ (¬ (16 ≤ x1) → (gk_out x1 16 = false ∧ gk_W none (d + 1) 194 2 [some (.ref 27), some (.int (x1 + 1)), none, none] [] (w_sa w 39 ((w_a w 39).set x1.toNatClampNeg 0)) r w')))) :
    gk_W none (d + 1) 194 2 [some (.ref 27), some (.int x1), none, none] [] w r w' := by
  refine gk_W_b 3 (16 ≤ x1) (t := 21) (e := 8) (l1 := [some (.ref 27), some (.int x1), none, none]) (st1 := []) rfl (fun hp1 => ?_) (fun hp1 => ?_)
  · have h := h.1 hp1
    refine gk_W_s 2 (pc1 := 23) (l1 := [some (.ref 27), some (.int 0), none, none]) (st1 := []) rfl ?_
    exact h
  · have h := h.2 hp1
    refine gk_W_s 1 (pc1 := 9) (l1 := [some (.ref 27), some (.int x1), none, none]) (st1 := [.ref 27]) rfl ?_
    refine gk_W_h (i := .getfield 52) 12 rfl rfl (h_gr (a := 26) (k := 20) (m := 40) hS ly_26 rfl) rfl ?_
    refine gk_W_s 2 (pc1 := 14) (l1 := [some (.ref 27), some (.int x1), none, none]) (st1 := [.int 0, .int x1, .ref 40]) rfl ?_
    obtain ⟨hb2, h⟩ := h
    refine gk_W_h (i := .bastore) 15 rfl rfl (h_as (a := 39) (t := 2) hS ly_39 hb2 rfl) rfl ?_
    refine gk_W_s 2 (pc1 := 2) (l1 := [some (.ref 27), some (.int (x1 + 1)), none, none]) (st1 := []) rfl ?_
    exact h
set_option maxRecDepth 8000 in
/-- GrammarDeskModel.findGrows()V, at 23 -/
theorem sg_194_23 {d : Nat} {rr : List gk_S} {w w' : gk_Wd} {r : gk_Res} (hS : gk_Sh rr w) (x1 : Int32)
    (h : ((17 ≤ x1 → (r = .inl none ∧ w' = w)) ∧ (¬ (17 ≤ x1) → gk_W none (d + 1) 194 31 [some (.ref 27), some (.int x1), some (.int 0), none] [] w r w'))) :
    gk_W none (d + 1) 194 23 [some (.ref 27), some (.int x1), none, none] [] w r w' := by
  refine gk_W_b 3 (17 ≤ x1) (t := 107) (e := 29) (l1 := [some (.ref 27), some (.int x1), none, none]) (st1 := []) rfl (fun hp1 => ?_) (fun hp1 => ?_)
  · have h := h.1 hp1
    obtain ⟨rfl, rfl⟩ := h
    exact gk_W_r (i := .return_) rfl rfl rfl
  · have h := h.2 hp1
    refine gk_W_s 2 (pc1 := 31) (l1 := [some (.ref 27), some (.int x1), some (.int 0), none]) (st1 := []) rfl ?_
    exact h
set_option maxRecDepth 8000 in
/-- GrammarDeskModel.findGrows()V, at 31 -/
theorem sg_194_31 {d : Nat} {rr : List gk_S} {w w' : gk_Wd} {r : gk_Res} (hS : gk_Sh rr w) (x1 : Int32) (x2 : Int32)
    (h : (((w_i w 26 4) ≤ x2 → gk_W none (d + 1) 194 23 [some (.ref 27), some (.int (x1 + 1)), none, none] [] w r w') ∧ (¬ ((w_i w 26 4) ≤ x2) → gk_W none (d + 1) 194 41 [some (.ref 27), some (.int x1), some (.int x2), some (.int 0)] [] w r w'))) :
    gk_W none (d + 1) 194 31 [some (.ref 27), some (.int x1), some (.int x2), none] [] w r w' := by
  refine gk_W_s 2 (pc1 := 33) (l1 := [some (.ref 27), some (.int x1), some (.int x2), none]) (st1 := [.ref 27, .int x2]) rfl ?_
  refine gk_W_h (i := .getfield 111) 36 rfl rfl (h_gi (a := 26) (k := 4) hS ly_26 rfl) rfl ?_
  refine gk_W_b 1 ((w_i w 26 4) ≤ x2) (t := 101) (e := 39) (l1 := [some (.ref 27), some (.int x1), some (.int x2), none]) (st1 := []) rfl (fun hp1 => ?_) (fun hp1 => ?_)
  · have h := h.1 hp1
    refine gk_W_s 2 (pc1 := 23) (l1 := [some (.ref 27), some (.int (x1 + 1)), some (.int x2), none]) (st1 := []) rfl ?_
    exact gk_W_le (gk_le_s (gk_le_s (gk_le_n (gk_le_s (gk_le_0))))) h
  · have h := h.2 hp1
    refine gk_W_s 2 (pc1 := 41) (l1 := [some (.ref 27), some (.int x1), some (.int x2), some (.int 0)]) (st1 := []) rfl ?_
    exact h
set_option maxRecDepth 8000 in
/-- GrammarDeskModel.findGrows()V, at 41 -/
theorem sg_194_41 {d : Nat} {rr : List gk_S} {w w' : gk_Wd} {r : gk_Res} (hS : gk_Sh rr w) (x1 : Int32) (x2 : Int32) (x3 : Int32)
    (h : (gk_out x2 64 = false ∧ ((((w_a w 29).getD x2.toNatClampNeg 0) ≤ x3 → gk_W none (d + 1) 194 31 [some (.ref 27), some (.int x1), some (.int (x2 + 1)), none] [] w r w') ∧ (¬ (((w_a w 29).getD x2.toNatClampNeg 0) ≤ x3) → ((gk_out ((10 * x2) + x3) 640 = false) ∧ (((f_163 (f_151 w x2 x3)) = 0 → (gk_out x2 64 = false ∧ (gk_out ((w_a w 28).getD x2.toNatClampNeg 0) 16 = false ∧ gk_W none (d + 1) 194 41 [some (.ref 27), some (.int x1), some (.int x2), some (.int (x3 + 1))] [] (w_sa w 39 ((w_a w 39).set ((w_a w 28).getD x2.toNatClampNeg 0).toNatClampNeg 1)) r w'))) ∧ (¬ ((f_163 (f_151 w x2 x3)) = 0) → ((gk_out ((10 * x2) + x3) 640 = false) ∧ (gk_out (f_151 w x2 x3) 16 = false ∧ ((((w_a w 39).getD (f_151 w x2 x3).toNatClampNeg 0) = 0 → gk_W none (d + 1) 194 41 [some (.ref 27), some (.int x1), some (.int x2), some (.int (x3 + 1))] [] w r w') ∧ (¬ (((w_a w 39).getD (f_151 w x2 x3).toNatClampNeg 0) = 0) → (gk_out x2 64 = false ∧ (gk_out ((w_a w 28).getD x2.toNatClampNeg 0) 16 = false ∧ gk_W none (d + 1) 194 41 [some (.ref 27), some (.int x1), some (.int x2), some (.int (x3 + 1))] [] (w_sa w 39 ((w_a w 39).set ((w_a w 28).getD x2.toNatClampNeg 0).toNatClampNeg 1)) r w'))))))))))))) :
    gk_W none (d + 1) 194 41 [some (.ref 27), some (.int x1), some (.int x2), some (.int x3)] [] w r w' := by
  refine gk_W_s 2 (pc1 := 43) (l1 := [some (.ref 27), some (.int x1), some (.int x2), some (.int x3)]) (st1 := [.ref 27, .int x3]) rfl ?_
  refine gk_W_h (i := .getfield 21) 46 rfl rfl (h_gr (a := 26) (k := 6) (m := 30) hS ly_26 rfl) rfl ?_
  refine gk_W_s 1 (pc1 := 47) (l1 := [some (.ref 27), some (.int x1), some (.int x2), some (.int x3)]) (st1 := [.int x2, .ref 30, .int x3]) rfl ?_
  obtain ⟨hb1, h⟩ := h
  refine gk_W_h (i := .iaload) 48 rfl rfl (h_al (a := 29) (scr := none) hS ly_29 hb1) rfl ?_
  refine gk_W_b 1 (((w_a w 29).getD x2.toNatClampNeg 0) ≤ x3) (t := 95) (e := 51) (l1 := [some (.ref 27), some (.int x1), some (.int x2), some (.int x3)]) (st1 := []) rfl (fun hp2 => ?_) (fun hp2 => ?_)
  · have h := h.1 hp2
    refine gk_W_s 2 (pc1 := 31) (l1 := [some (.ref 27), some (.int x1), some (.int (x2 + 1)), some (.int x3)]) (st1 := []) rfl ?_
    exact gk_W_le (gk_le_s (gk_le_s (gk_le_s (gk_le_n (gk_le_0))))) h
  · have h := h.2 hp2
    refine gk_W_s 3 (pc1 := 54) (l1 := [some (.ref 27), some (.int x1), some (.int x2), some (.int x3)]) (st1 := [.int x3, .int x2, .ref 27]) rfl ?_
    obtain ⟨hb3, h⟩ := h
    refine gk_W_c (i := .invokevirtual 103) [.int (f_151 w x2 x3)] 57 rfl rfl (c_v (a := 26) hS ly_26 rfl rfl (Nat.le_of_ble_eq_true rfl)) (f_151_E hS x2 x3 hb3) rfl rfl ?_
    refine gk_W_c (i := .invokestatic 166) [.int (f_163 (f_151 w x2 x3))] 60 rfl rfl rfl (f_163_E (f_151 w x2 x3)) rfl rfl ?_
    refine gk_W_b 1 ((f_163 (f_151 w x2 x3)) = 0) (t := 77) (e := 63) (l1 := [some (.ref 27), some (.int x1), some (.int x2), some (.int x3)]) (st1 := []) rfl (fun hp4 => ?_) (fun hp4 => ?_)
    · have h := h.1 hp4
      refine gk_W_s 1 (pc1 := 78) (l1 := [some (.ref 27), some (.int x1), some (.int x2), some (.int x3)]) (st1 := [.ref 27]) rfl ?_
      refine gk_W_h (i := .getfield 52) 81 rfl rfl (h_gr (a := 26) (k := 20) (m := 40) hS ly_26 rfl) rfl ?_
      refine gk_W_s 1 (pc1 := 82) (l1 := [some (.ref 27), some (.int x1), some (.int x2), some (.int x3)]) (st1 := [.ref 27, .ref 40]) rfl ?_
      refine gk_W_h (i := .getfield 17) 85 rfl rfl (h_gr (a := 26) (k := 5) (m := 29) hS ly_26 rfl) rfl ?_
      refine gk_W_s 1 (pc1 := 86) (l1 := [some (.ref 27), some (.int x1), some (.int x2), some (.int x3)]) (st1 := [.int x2, .ref 29, .ref 40]) rfl ?_
      obtain ⟨hb5, h⟩ := h
      refine gk_W_h (i := .iaload) 87 rfl rfl (h_al (a := 28) (scr := none) hS ly_28 hb5) rfl ?_
      refine gk_W_s 1 (pc1 := 88) (l1 := [some (.ref 27), some (.int x1), some (.int x2), some (.int x3)]) (st1 := [.int 1, .int ((w_a w 28).getD x2.toNatClampNeg 0), .ref 40]) rfl ?_
      obtain ⟨hb6, h⟩ := h
      refine gk_W_h (i := .bastore) 89 rfl rfl (h_as (a := 39) (t := 2) hS ly_39 hb6 rfl) rfl ?_
      refine gk_W_s 2 (pc1 := 41) (l1 := [some (.ref 27), some (.int x1), some (.int x2), some (.int (x3 + 1))]) (st1 := []) rfl ?_
      exact h
    · have h := h.2 hp4
      refine gk_W_s 1 (pc1 := 64) (l1 := [some (.ref 27), some (.int x1), some (.int x2), some (.int x3)]) (st1 := [.ref 27]) rfl ?_
      refine gk_W_h (i := .getfield 52) 67 rfl rfl (h_gr (a := 26) (k := 20) (m := 40) hS ly_26 rfl) rfl ?_
      refine gk_W_s 3 (pc1 := 70) (l1 := [some (.ref 27), some (.int x1), some (.int x2), some (.int x3)]) (st1 := [.int x3, .int x2, .ref 27, .ref 40]) rfl ?_
      obtain ⟨hb7, h⟩ := h
      refine gk_W_c (i := .invokevirtual 103) [.int (f_151 w x2 x3), .ref 40] 73 rfl rfl (c_v (a := 26) hS ly_26 rfl rfl (Nat.le_of_ble_eq_true rfl)) (f_151_E hS x2 x3 hb7) rfl rfl ?_
      obtain ⟨hb8, h⟩ := h
      refine gk_W_h (i := .baload) 74 rfl rfl (h_al (a := 39) (scr := none) hS ly_39 hb8) rfl ?_
      refine gk_W_b 1 (((w_a w 39).getD (f_151 w x2 x3).toNatClampNeg 0) = 0) (t := 89) (e := 77) (l1 := [some (.ref 27), some (.int x1), some (.int x2), some (.int x3)]) (st1 := []) rfl (fun hp9 => ?_) (fun hp9 => ?_)
      · have h := h.1 hp9
        refine gk_W_s 2 (pc1 := 41) (l1 := [some (.ref 27), some (.int x1), some (.int x2), some (.int (x3 + 1))]) (st1 := []) rfl ?_
        exact h
      · have h := h.2 hp9
        refine gk_W_s 1 (pc1 := 78) (l1 := [some (.ref 27), some (.int x1), some (.int x2), some (.int x3)]) (st1 := [.ref 27]) rfl ?_
        refine gk_W_h (i := .getfield 52) 81 rfl rfl (h_gr (a := 26) (k := 20) (m := 40) hS ly_26 rfl) rfl ?_
        refine gk_W_s 1 (pc1 := 82) (l1 := [some (.ref 27), some (.int x1), some (.int x2), some (.int x3)]) (st1 := [.ref 27, .ref 40]) rfl ?_
        refine gk_W_h (i := .getfield 17) 85 rfl rfl (h_gr (a := 26) (k := 5) (m := 29) hS ly_26 rfl) rfl ?_
        refine gk_W_s 1 (pc1 := 86) (l1 := [some (.ref 27), some (.int x1), some (.int x2), some (.int x3)]) (st1 := [.int x2, .ref 29, .ref 40]) rfl ?_
        obtain ⟨hb10, h⟩ := h
        refine gk_W_h (i := .iaload) 87 rfl rfl (h_al (a := 28) (scr := none) hS ly_28 hb10) rfl ?_
        refine gk_W_s 1 (pc1 := 88) (l1 := [some (.ref 27), some (.int x1), some (.int x2), some (.int x3)]) (st1 := [.int 1, .int ((w_a w 28).getD x2.toNatClampNeg 0), .ref 40]) rfl ?_
        obtain ⟨hb11, h⟩ := h
        refine gk_W_h (i := .bastore) 89 rfl rfl (h_as (a := 39) (t := 2) hS ly_39 hb11 rfl) rfl ?_
        refine gk_W_s 2 (pc1 := 41) (l1 := [some (.ref 27), some (.int x1), some (.int x2), some (.int (x3 + 1))]) (st1 := []) rfl ?_
        exact h
set_option maxRecDepth 8000 in
/-- GrammarDeskModel.findFirsts()V, at 0 -/
theorem sg_196_0 {d : Nat} {rr : List gk_S} {w w' : gk_Wd} {r : gk_Res} (hS : gk_Sh rr w)
    (h : (∃ (w2 : gk_Wd), gk_E d 169 [.ref 27] w (.inl none) w2 ∧ gk_Sh rr w2 ∧ gk_W none (d + 1) 196 6 [some (.ref 27), some (.int 0), none] [] w2 r w')) :
    gk_W none (d + 1) 196 0 [some (.ref 27), none, none] [] w r w' := by
  refine gk_W_s 1 (pc1 := 1) (l1 := [some (.ref 27), none, none]) (st1 := [.ref 27]) rfl ?_
  obtain ⟨w2, hE1, hS3, h⟩ := h
  refine gk_W_c (i := .invokevirtual 186) [] 4 rfl rfl (c_v (a := 26) hS ly_26 rfl rfl (Nat.le_of_ble_eq_true rfl)) hE1 rfl rfl ?_
  refine gk_W_s 2 (pc1 := 6) (l1 := [some (.ref 27), some (.int 0), none]) (st1 := []) rfl ?_
  exact h
set_option maxRecDepth 8000 in
/-- GrammarDeskModel.findFirsts()V, at 6 -/
theorem sg_196_6 {d : Nat} {rr : List gk_S} {w w' : gk_Wd} {r : gk_Res} (hS : gk_Sh rr w) (x1 : Int32)
    (h : ((16 ≤ x1 → gk_W none (d + 1) 196 41 [some (.ref 27), some (.int 0), none] [] w r w') ∧ (¬ (16 ≤ x1) → (gk_out x1 16 = false ∧ ((((w_a w 38).getD x1.toNatClampNeg 0) = 0 → (gk_out x1 16 = false ∧ gk_W none (d + 1) 196 6 [some (.ref 27), some (.int (x1 + 1)), none] [] (w_sa w 41 ((w_a w 41).set x1.toNatClampNeg 0)) r w')) ∧ (¬ (((w_a w 38).getD x1.toNatClampNeg 0) = 0) → (gk_out x1 16 = false ∧ gk_W none (d + 1) 196 6 [some (.ref 27), some (.int (x1 + 1)), none] [] (w_sa w 41 ((w_a w 41).set x1.toNatClampNeg 64)) r w'))))))) :
    gk_W none (d + 1) 196 6 [some (.ref 27), some (.int x1), none] [] w r w' := by
  refine gk_W_b 3 (16 ≤ x1) (t := 39) (e := 12) (l1 := [some (.ref 27), some (.int x1), none]) (st1 := []) rfl (fun hp1 => ?_) (fun hp1 => ?_)
  · have h := h.1 hp1
    refine gk_W_s 2 (pc1 := 41) (l1 := [some (.ref 27), some (.int 0), none]) (st1 := []) rfl ?_
    exact h
  · have h := h.2 hp1
    refine gk_W_s 1 (pc1 := 13) (l1 := [some (.ref 27), some (.int x1), none]) (st1 := [.ref 27]) rfl ?_
    refine gk_W_h (i := .getfield 58) 16 rfl rfl (h_gr (a := 26) (k := 22) (m := 42) hS ly_26 rfl) rfl ?_
    refine gk_W_s 2 (pc1 := 18) (l1 := [some (.ref 27), some (.int x1), none]) (st1 := [.ref 27, .int x1, .ref 42]) rfl ?_
    refine gk_W_h (i := .getfield 49) 21 rfl rfl (h_gr (a := 26) (k := 19) (m := 39) hS ly_26 rfl) rfl ?_
    refine gk_W_s 1 (pc1 := 22) (l1 := [some (.ref 27), some (.int x1), none]) (st1 := [.int x1, .ref 39, .int x1, .ref 42]) rfl ?_
    obtain ⟨hb2, h⟩ := h
    refine gk_W_h (i := .baload) 23 rfl rfl (h_al (a := 38) (scr := none) hS ly_38 hb2) rfl ?_
    refine gk_W_b 1 (((w_a w 38).getD x1.toNatClampNeg 0) = 0) (t := 31) (e := 26) (l1 := [some (.ref 27), some (.int x1), none]) (st1 := [.int x1, .ref 42]) rfl (fun hp3 => ?_) (fun hp3 => ?_)
    · have h := h.1 hp3
      refine gk_W_s 1 (pc1 := 32) (l1 := [some (.ref 27), some (.int x1), none]) (st1 := [.int 0, .int x1, .ref 42]) rfl ?_
      obtain ⟨hb4, h⟩ := h
      refine gk_W_h (i := .iastore) 33 rfl rfl (h_as (a := 41) (t := 0) hS ly_41 hb4 rfl) rfl ?_
      refine gk_W_s 2 (pc1 := 6) (l1 := [some (.ref 27), some (.int (x1 + 1)), none]) (st1 := []) rfl ?_
      exact h
    · have h := h.2 hp3
      refine gk_W_s 2 (pc1 := 32) (l1 := [some (.ref 27), some (.int x1), none]) (st1 := [.int 64, .int x1, .ref 42]) rfl ?_
      obtain ⟨hb5, h⟩ := h
      refine gk_W_h (i := .iastore) 33 rfl rfl (h_as (a := 41) (t := 0) hS ly_41 hb5 rfl) rfl ?_
      refine gk_W_s 2 (pc1 := 6) (l1 := [some (.ref 27), some (.int (x1 + 1)), none]) (st1 := []) rfl ?_
      exact h
set_option maxRecDepth 8000 in
/-- GrammarDeskModel.findFirsts()V, at 41 -/
theorem sg_196_41 {d : Nat} {rr : List gk_S} {w w' : gk_Wd} {r : gk_Res} (hS : gk_Sh rr w) (x1 : Int32)
    (h : ((18 ≤ x1 → (r = .inl none ∧ w' = w)) ∧ (¬ (18 ≤ x1) → gk_W none (d + 1) 196 49 [some (.ref 27), some (.int x1), some (.int 0)] [] w r w'))) :
    gk_W none (d + 1) 196 41 [some (.ref 27), some (.int x1), none] [] w r w' := by
  refine gk_W_b 3 (18 ≤ x1) (t := 98) (e := 47) (l1 := [some (.ref 27), some (.int x1), none]) (st1 := []) rfl (fun hp1 => ?_) (fun hp1 => ?_)
  · have h := h.1 hp1
    obtain ⟨rfl, rfl⟩ := h
    exact gk_W_r (i := .return_) rfl rfl rfl
  · have h := h.2 hp1
    refine gk_W_s 2 (pc1 := 49) (l1 := [some (.ref 27), some (.int x1), some (.int 0)]) (st1 := []) rfl ?_
    exact h
set_option maxRecDepth 8000 in
/-- GrammarDeskModel.findFirsts()V, at 49 -/
theorem sg_196_49 {d : Nat} {rr : List gk_S} {w w' : gk_Wd} {r : gk_Res} (hS : gk_Sh rr w) (x1 : Int32) (x2 : Int32)
    (h : (((w_i w 26 4) ≤ x2 → gk_W none (d + 1) 196 41 [some (.ref 27), some (.int (x1 + 1)), none] [] w r w') ∧ (¬ ((w_i w 26 4) ≤ x2) → (gk_out x2 64 = false ∧ (gk_out x2 64 = false ∧ (gk_out ((w_a w 28).getD x2.toNatClampNeg 0) 16 = false ∧ (∃ (v6 : Int32), gk_E d 197 [.ref 27, .int x2, .int 0] w (.inl (some (.int v6))) w ∧ (gk_out ((w_a w 28).getD x2.toNatClampNeg 0) 16 = false ∧ gk_W none (d + 1) 196 49 [some (.ref 27), some (.int x1), some (.int (x2 + 1))] [] (w_sa w 41 ((w_a w 41).set ((w_a w 28).getD x2.toNatClampNeg 0).toNatClampNeg (((w_a w 41).getD ((w_a w 28).getD x2.toNatClampNeg 0).toNatClampNeg 0) ||| v6))) r w')))))))) :
    gk_W none (d + 1) 196 49 [some (.ref 27), some (.int x1), some (.int x2)] [] w r w' := by
  refine gk_W_s 2 (pc1 := 51) (l1 := [some (.ref 27), some (.int x1), some (.int x2)]) (st1 := [.ref 27, .int x2]) rfl ?_
  refine gk_W_h (i := .getfield 111) 54 rfl rfl (h_gi (a := 26) (k := 4) hS ly_26 rfl) rfl ?_
  refine gk_W_b 1 ((w_i w 26 4) ≤ x2) (t := 92) (e := 57) (l1 := [some (.ref 27), some (.int x1), some (.int x2)]) (st1 := []) rfl (fun hp1 => ?_) (fun hp1 => ?_)
  · have h := h.1 hp1
    refine gk_W_s 2 (pc1 := 41) (l1 := [some (.ref 27), some (.int (x1 + 1)), some (.int x2)]) (st1 := []) rfl ?_
    exact gk_W_le (gk_le_s (gk_le_s (gk_le_n (gk_le_0)))) h
  · have h := h.2 hp1
    refine gk_W_s 1 (pc1 := 58) (l1 := [some (.ref 27), some (.int x1), some (.int x2)]) (st1 := [.ref 27]) rfl ?_
    refine gk_W_h (i := .getfield 58) 61 rfl rfl (h_gr (a := 26) (k := 22) (m := 42) hS ly_26 rfl) rfl ?_
    refine gk_W_s 1 (pc1 := 62) (l1 := [some (.ref 27), some (.int x1), some (.int x2)]) (st1 := [.ref 27, .ref 42]) rfl ?_
    refine gk_W_h (i := .getfield 17) 65 rfl rfl (h_gr (a := 26) (k := 5) (m := 29) hS ly_26 rfl) rfl ?_
    refine gk_W_s 1 (pc1 := 66) (l1 := [some (.ref 27), some (.int x1), some (.int x2)]) (st1 := [.int x2, .ref 29, .ref 42]) rfl ?_
    obtain ⟨hb2, h⟩ := h
    refine gk_W_h (i := .iaload) 67 rfl rfl (h_al (a := 28) (scr := none) hS ly_28 hb2) rfl ?_
    refine gk_W_s 1 (pc1 := 68) (l1 := [some (.ref 27), some (.int x1), some (.int x2)]) (st1 := [.ref 27, .int ((w_a w 28).getD x2.toNatClampNeg 0), .ref 42]) rfl ?_
    refine gk_W_h (i := .getfield 58) 71 rfl rfl (h_gr (a := 26) (k := 22) (m := 42) hS ly_26 rfl) rfl ?_
    refine gk_W_s 1 (pc1 := 72) (l1 := [some (.ref 27), some (.int x1), some (.int x2)]) (st1 := [.ref 27, .ref 42, .int ((w_a w 28).getD x2.toNatClampNeg 0), .ref 42]) rfl ?_
    refine gk_W_h (i := .getfield 17) 75 rfl rfl (h_gr (a := 26) (k := 5) (m := 29) hS ly_26 rfl) rfl ?_
    refine gk_W_s 1 (pc1 := 76) (l1 := [some (.ref 27), some (.int x1), some (.int x2)]) (st1 := [.int x2, .ref 29, .ref 42, .int ((w_a w 28).getD x2.toNatClampNeg 0), .ref 42]) rfl ?_
    obtain ⟨hb3, h⟩ := h
    refine gk_W_h (i := .iaload) 77 rfl rfl (h_al (a := 28) (scr := none) hS ly_28 hb3) rfl ?_
    obtain ⟨hb4, h⟩ := h
    refine gk_W_h (i := .iaload) 78 rfl rfl (h_al (a := 41) (scr := none) hS ly_41 hb4) rfl ?_
    refine gk_W_s 3 (pc1 := 81) (l1 := [some (.ref 27), some (.int x1), some (.int x2)]) (st1 := [.int 0, .int x2, .ref 27, .int ((w_a w 41).getD ((w_a w 28).getD x2.toNatClampNeg 0).toNatClampNeg 0), .int ((w_a w 28).getD x2.toNatClampNeg 0), .ref 42]) rfl ?_
    obtain ⟨v6, hE5, h⟩ := h
    refine gk_W_c (i := .invokevirtual 258) [.int v6, .int ((w_a w 41).getD ((w_a w 28).getD x2.toNatClampNeg 0).toNatClampNeg 0), .int ((w_a w 28).getD x2.toNatClampNeg 0), .ref 42] 84 rfl rfl (c_v (a := 26) hS ly_26 rfl rfl (Nat.le_of_ble_eq_true rfl)) hE5 rfl rfl ?_
    refine gk_W_s 1 (pc1 := 85) (l1 := [some (.ref 27), some (.int x1), some (.int x2)]) (st1 := [.int (((w_a w 41).getD ((w_a w 28).getD x2.toNatClampNeg 0).toNatClampNeg 0) ||| v6), .int ((w_a w 28).getD x2.toNatClampNeg 0), .ref 42]) rfl ?_
    obtain ⟨hb7, h⟩ := h
    refine gk_W_h (i := .iastore) 86 rfl rfl (h_as (a := 41) (t := 0) hS ly_41 hb7 rfl) rfl ?_
    refine gk_W_s 2 (pc1 := 49) (l1 := [some (.ref 27), some (.int x1), some (.int (x2 + 1))]) (st1 := []) rfl ?_
    exact h
set_option maxRecDepth 8000 in
/-- GrammarDeskModel.firstFrom(II)I, at 0 -/
theorem sg_197_0 {d : Nat} {rr : List gk_S} {w w' : gk_Wd} {r : gk_Res} (hS : gk_Sh rr w) (x1 : Int32) (x2 : Int32)
    (h : gk_W none (d + 2) 197 5 [some (.ref 27), some (.int x1), none, some (.int 0), some (.int x2)] [] w r w') :
    gk_W none (d + 2) 197 0 [some (.ref 27), some (.int x1), some (.int x2), none, none] [] w r w' := by
  refine gk_W_s 4 (pc1 := 5) (l1 := [some (.ref 27), some (.int x1), some (.int x2), some (.int 0), some (.int x2)]) (st1 := []) rfl ?_
  exact gk_W_le (gk_le_s (gk_le_s (gk_le_n (gk_le_s (gk_le_s (gk_le_0)))))) h
set_option maxRecDepth 8000 in
/-- GrammarDeskModel.firstFrom(II)I, at 5 -/
theorem sg_197_5 {d : Nat} {rr : List gk_S} {w w' : gk_Wd} {r : gk_Res} (hS : gk_Sh rr w) (x1 : Int32) (x3 : Int32) (x4 : Int32)
    (h : (gk_out x1 64 = false ∧ ((((w_a w 29).getD x1.toNatClampNeg 0) ≤ x4 → (r = .inl (some (.int (x3 ||| 64))) ∧ w' = w)) ∧ (¬ (((w_a w 29).getD x1.toNatClampNeg 0) ≤ x4) → ((gk_out ((10 * x1) + x4) 640 = false) ∧ ((¬ ((f_163 (f_151 w x1 x4)) = 0) → gk_out (f_151 w x1 x4) 16 = false) ∧ ((gk_out ((10 * x1) + x4) 640 = false) ∧ (((f_163 (f_151 w x1 x4)) = 0 → (r = .inl (some (.int (x3 ||| ((f_198 w (f_151 w x1 x4)) &&& 63)))) ∧ w' = w)) ∧ (¬ ((f_163 (f_151 w x1 x4)) = 0) → ((gk_out ((10 * x1) + x4) 640 = false) ∧ (gk_out (f_151 w x1 x4) 16 = false ∧ ((¬ ((w_a w 38).getD (f_151 w x1 x4).toNatClampNeg 0) = 0 → gk_W none (d + 2) 197 5 [some (.ref 27), some (.int x1), none, some (.int (x3 ||| ((f_198 w (f_151 w x1 x4)) &&& 63))), some (.int (x4 + 1))] [] w r w') ∧ (((w_a w 38).getD (f_151 w x1 x4).toNatClampNeg 0) = 0 → (r = .inl (some (.int (x3 ||| ((f_198 w (f_151 w x1 x4)) &&& 63)))) ∧ w' = w)))))))))))))) :
    gk_W none (d + 2) 197 5 [some (.ref 27), some (.int x1), none, some (.int x3), some (.int x4)] [] w r w' := by
  refine gk_W_s 2 (pc1 := 8) (l1 := [some (.ref 27), some (.int x1), none, some (.int x3), some (.int x4)]) (st1 := [.ref 27, .int x4]) rfl ?_
  refine gk_W_h (i := .getfield 21) 11 rfl rfl (h_gr (a := 26) (k := 6) (m := 30) hS ly_26 rfl) rfl ?_
  refine gk_W_s 1 (pc1 := 12) (l1 := [some (.ref 27), some (.int x1), none, some (.int x3), some (.int x4)]) (st1 := [.int x1, .ref 30, .int x4]) rfl ?_
  obtain ⟨hb1, h⟩ := h
  refine gk_W_h (i := .iaload) 13 rfl rfl (h_al (a := 29) (scr := none) hS ly_29 hb1) rfl ?_
  refine gk_W_b 1 (((w_a w 29).getD x1.toNatClampNeg 0) ≤ x4) (t := 69) (e := 16) (l1 := [some (.ref 27), some (.int x1), none, some (.int x3), some (.int x4)]) (st1 := []) rfl (fun hp2 => ?_) (fun hp2 => ?_)
  · have h := h.1 hp2
    refine gk_W_s 3 (pc1 := 73) (l1 := [some (.ref 27), some (.int x1), none, some (.int x3), some (.int x4)]) (st1 := [.int (x3 ||| 64)]) rfl ?_
    obtain ⟨rfl, rfl⟩ := h
    exact gk_W_r (i := .ireturn) rfl rfl rfl
  · have h := h.2 hp2
    refine gk_W_s 5 (pc1 := 22) (l1 := [some (.ref 27), some (.int x1), none, some (.int x3), some (.int x4)]) (st1 := [.int x4, .int x1, .ref 27, .ref 27, .int x3]) rfl ?_
    obtain ⟨hb3, h⟩ := h
    refine gk_W_c (i := .invokevirtual 103) [.int (f_151 w x1 x4), .ref 27, .int x3] 25 rfl rfl (c_v (a := 26) hS ly_26 rfl rfl (Nat.le_of_ble_eq_true rfl)) (f_151_E hS x1 x4 hb3) rfl rfl ?_
    obtain ⟨hb4, h⟩ := h
    refine gk_W_c (i := .invokevirtual 255) [.int (f_198 w (f_151 w x1 x4)), .int x3] 28 rfl rfl (c_v (a := 26) hS ly_26 rfl rfl (Nat.le_of_ble_eq_true rfl)) (f_198_E hS (f_151 w x1 x4) hb4) rfl rfl ?_
    refine gk_W_s 7 (pc1 := 37) (l1 := [some (.ref 27), some (.int x1), none, some (.int (x3 ||| ((f_198 w (f_151 w x1 x4)) &&& 63))), some (.int x4)]) (st1 := [.int x4, .int x1, .ref 27]) rfl ?_
    obtain ⟨hb5, h⟩ := h
    refine gk_W_c (i := .invokevirtual 103) [.int (f_151 w x1 x4)] 40 rfl rfl (c_v (a := 26) hS ly_26 rfl rfl (Nat.le_of_ble_eq_true rfl)) (f_151_E hS x1 x4 hb5) rfl rfl ?_
    refine gk_W_c (i := .invokestatic 166) [.int (f_163 (f_151 w x1 x4))] 43 rfl rfl rfl (f_163_E (f_151 w x1 x4)) rfl rfl ?_
    refine gk_W_b 1 ((f_163 (f_151 w x1 x4)) = 0) (t := 61) (e := 46) (l1 := [some (.ref 27), some (.int x1), none, some (.int (x3 ||| ((f_198 w (f_151 w x1 x4)) &&& 63))), some (.int x4)]) (st1 := []) rfl (fun hp6 => ?_) (fun hp6 => ?_)
    · have h := h.1 hp6
      refine gk_W_s 1 (pc1 := 62) (l1 := [some (.ref 27), some (.int x1), none, some (.int (x3 ||| ((f_198 w (f_151 w x1 x4)) &&& 63))), some (.int x4)]) (st1 := [.int (x3 ||| ((f_198 w (f_151 w x1 x4)) &&& 63))]) rfl ?_
      obtain ⟨rfl, rfl⟩ := h
      exact gk_W_r (i := .ireturn) rfl rfl rfl
    · have h := h.2 hp6
      refine gk_W_s 1 (pc1 := 47) (l1 := [some (.ref 27), some (.int x1), none, some (.int (x3 ||| ((f_198 w (f_151 w x1 x4)) &&& 63))), some (.int x4)]) (st1 := [.ref 27]) rfl ?_
      refine gk_W_h (i := .getfield 49) 50 rfl rfl (h_gr (a := 26) (k := 19) (m := 39) hS ly_26 rfl) rfl ?_
      refine gk_W_s 3 (pc1 := 54) (l1 := [some (.ref 27), some (.int x1), none, some (.int (x3 ||| ((f_198 w (f_151 w x1 x4)) &&& 63))), some (.int x4)]) (st1 := [.int x4, .int x1, .ref 27, .ref 39]) rfl ?_
      obtain ⟨hb7, h⟩ := h
      refine gk_W_c (i := .invokevirtual 103) [.int (f_151 w x1 x4), .ref 39] 57 rfl rfl (c_v (a := 26) hS ly_26 rfl rfl (Nat.le_of_ble_eq_true rfl)) (f_151_E hS x1 x4 hb7) rfl rfl ?_
      obtain ⟨hb8, h⟩ := h
      refine gk_W_h (i := .baload) 58 rfl rfl (h_al (a := 38) (scr := none) hS ly_38 hb8) rfl ?_
      refine gk_W_b 1 (¬ ((w_a w 38).getD (f_151 w x1 x4).toNatClampNeg 0) = 0) (t := 63) (e := 61) (l1 := [some (.ref 27), some (.int x1), none, some (.int (x3 ||| ((f_198 w (f_151 w x1 x4)) &&& 63))), some (.int x4)]) (st1 := []) rfl (fun hp9 => ?_) (fun hp9 => ?_)
      · have h := h.1 hp9
        refine gk_W_s 2 (pc1 := 5) (l1 := [some (.ref 27), some (.int x1), none, some (.int (x3 ||| ((f_198 w (f_151 w x1 x4)) &&& 63))), some (.int (x4 + 1))]) (st1 := []) rfl ?_
        exact h
      · have h := h.2 (Decidable.not_not.mp hp9)
        refine gk_W_s 1 (pc1 := 62) (l1 := [some (.ref 27), some (.int x1), none, some (.int (x3 ||| ((f_198 w (f_151 w x1 x4)) &&& 63))), some (.int x4)]) (st1 := [.int (x3 ||| ((f_198 w (f_151 w x1 x4)) &&& 63))]) rfl ?_
        obtain ⟨rfl, rfl⟩ := h
        exact gk_W_r (i := .ireturn) rfl rfl rfl
set_option maxRecDepth 8000 in
/-- GrammarDeskModel.findFollows()V, at 0 -/
theorem sg_200_0 {d : Nat} {rr : List gk_S} {w w' : gk_Wd} {r : gk_Res} (hS : gk_Sh rr w)
    (h : (∃ (w2 : gk_Wd), gk_E d 196 [.ref 27] w (.inl none) w2 ∧ gk_Sh rr w2 ∧ gk_W none (d + 1) 200 6 [some (.ref 27), some (.int 0), none, none, none, none] [] w2 r w')) :
    gk_W none (d + 1) 200 0 [some (.ref 27), none, none, none, none, none] [] w r w' := by
  refine gk_W_s 1 (pc1 := 1) (l1 := [some (.ref 27), none, none, none, none, none]) (st1 := [.ref 27]) rfl ?_
  obtain ⟨w2, hE1, hS3, h⟩ := h
  refine gk_W_c (i := .invokevirtual 261) [] 4 rfl rfl (c_v (a := 26) hS ly_26 rfl rfl (Nat.le_of_ble_eq_true rfl)) hE1 rfl rfl ?_
  refine gk_W_s 2 (pc1 := 6) (l1 := [some (.ref 27), some (.int 0), none, none, none, none]) (st1 := []) rfl ?_
  exact h
set_option maxRecDepth 8000 in
/-- GrammarDeskModel.findFollows()V, at 6 -/
theorem sg_200_6 {d : Nat} {rr : List gk_S} {w w' : gk_Wd} {r : gk_Res} (hS : gk_Sh rr w) (x1 : Int32)
    (h : ((16 ≤ x1 → gk_W none (d + 1) 200 36 [some (.ref 27), some (.int 0), none, none, none, none] [] w r w') ∧ (¬ (16 ≤ x1) → ((¬ x1 = 0 → (gk_out x1 16 = false ∧ gk_W none (d + 1) 200 6 [some (.ref 27), some (.int (x1 + 1)), none, none, none, none] [] (w_sa w 42 ((w_a w 42).set x1.toNatClampNeg 0)) r w')) ∧ (x1 = 0 → (gk_out x1 16 = false ∧ gk_W none (d + 1) 200 6 [some (.ref 27), some (.int (x1 + 1)), none, none, none, none] [] (w_sa w 42 ((w_a w 42).set x1.toNatClampNeg 64)) r w')))))) :
    gk_W none (d + 1) 200 6 [some (.ref 27), some (.int x1), none, none, none, none] [] w r w' := by
  refine gk_W_b 3 (16 ≤ x1) (t := 34) (e := 12) (l1 := [some (.ref 27), some (.int x1), none, none, none, none]) (st1 := []) rfl (fun hp1 => ?_) (fun hp1 => ?_)
  · have h := h.1 hp1
    refine gk_W_s 2 (pc1 := 36) (l1 := [some (.ref 27), some (.int 0), none, none, none, none]) (st1 := []) rfl ?_
    exact h
  · have h := h.2 hp1
    refine gk_W_s 1 (pc1 := 13) (l1 := [some (.ref 27), some (.int x1), none, none, none, none]) (st1 := [.ref 27]) rfl ?_
    refine gk_W_h (i := .getfield 61) 16 rfl rfl (h_gr (a := 26) (k := 23) (m := 43) hS ly_26 rfl) rfl ?_
    refine gk_W_b 3 (¬ x1 = 0) (t := 26) (e := 21) (l1 := [some (.ref 27), some (.int x1), none, none, none, none]) (st1 := [.int x1, .ref 43]) rfl (fun hp2 => ?_) (fun hp2 => ?_)
    · have h := h.1 hp2
      refine gk_W_s 1 (pc1 := 27) (l1 := [some (.ref 27), some (.int x1), none, none, none, none]) (st1 := [.int 0, .int x1, .ref 43]) rfl ?_
      obtain ⟨hb3, h⟩ := h
      refine gk_W_h (i := .iastore) 28 rfl rfl (h_as (a := 42) (t := 0) hS ly_42 hb3 rfl) rfl ?_
      refine gk_W_s 2 (pc1 := 6) (l1 := [some (.ref 27), some (.int (x1 + 1)), none, none, none, none]) (st1 := []) rfl ?_
      exact h
    · have h := h.2 (Decidable.not_not.mp hp2)
      refine gk_W_s 2 (pc1 := 27) (l1 := [some (.ref 27), some (.int x1), none, none, none, none]) (st1 := [.int 64, .int x1, .ref 43]) rfl ?_
      obtain ⟨hb4, h⟩ := h
      refine gk_W_h (i := .iastore) 28 rfl rfl (h_as (a := 42) (t := 0) hS ly_42 hb4 rfl) rfl ?_
      refine gk_W_s 2 (pc1 := 6) (l1 := [some (.ref 27), some (.int (x1 + 1)), none, none, none, none]) (st1 := []) rfl ?_
      exact h
set_option maxRecDepth 8000 in
/-- GrammarDeskModel.findFollows()V, at 36 -/
theorem sg_200_36 {d : Nat} {rr : List gk_S} {w w' : gk_Wd} {r : gk_Res} (hS : gk_Sh rr w) (x1 : Int32)
    (h : ((18 ≤ x1 → (r = .inl none ∧ w' = w)) ∧ (¬ (18 ≤ x1) → gk_W none (d + 1) 200 44 [some (.ref 27), some (.int x1), some (.int 0), none, none, none] [] w r w'))) :
    gk_W none (d + 1) 200 36 [some (.ref 27), some (.int x1), none, none, none, none] [] w r w' := by
  refine gk_W_b 3 (18 ≤ x1) (t := 163) (e := 42) (l1 := [some (.ref 27), some (.int x1), none, none, none, none]) (st1 := []) rfl (fun hp1 => ?_) (fun hp1 => ?_)
  · have h := h.1 hp1
    obtain ⟨rfl, rfl⟩ := h
    exact gk_W_r (i := .return_) rfl rfl rfl
  · have h := h.2 hp1
    refine gk_W_s 2 (pc1 := 44) (l1 := [some (.ref 27), some (.int x1), some (.int 0), none, none, none]) (st1 := []) rfl ?_
    exact h
set_option maxRecDepth 8000 in
/-- GrammarDeskModel.findFollows()V, at 44 -/
theorem sg_200_44 {d : Nat} {rr : List gk_S} {w w' : gk_Wd} {r : gk_Res} (hS : gk_Sh rr w) (x1 : Int32) (x2 : Int32)
    (h : (((w_i w 26 4) ≤ x2 → gk_W none (d + 1) 200 36 [some (.ref 27), some (.int (x1 + 1)), none, none, none, none] [] w r w') ∧ (¬ ((w_i w 26 4) ≤ x2) → gk_W none (d + 1) 200 54 [some (.ref 27), some (.int x1), some (.int x2), some (.int 0), none, none] [] w r w'))) :
    gk_W none (d + 1) 200 44 [some (.ref 27), some (.int x1), some (.int x2), none, none, none] [] w r w' := by
  refine gk_W_s 2 (pc1 := 46) (l1 := [some (.ref 27), some (.int x1), some (.int x2), none, none, none]) (st1 := [.ref 27, .int x2]) rfl ?_
  refine gk_W_h (i := .getfield 111) 49 rfl rfl (h_gi (a := 26) (k := 4) hS ly_26 rfl) rfl ?_
  refine gk_W_b 1 ((w_i w 26 4) ≤ x2) (t := 157) (e := 52) (l1 := [some (.ref 27), some (.int x1), some (.int x2), none, none, none]) (st1 := []) rfl (fun hp1 => ?_) (fun hp1 => ?_)
  · have h := h.1 hp1
    refine gk_W_s 2 (pc1 := 36) (l1 := [some (.ref 27), some (.int (x1 + 1)), some (.int x2), none, none, none]) (st1 := []) rfl ?_
    exact gk_W_le (gk_le_s (gk_le_s (gk_le_n (gk_le_s (gk_le_s (gk_le_s (gk_le_0))))))) h
  · have h := h.2 hp1
    refine gk_W_s 2 (pc1 := 54) (l1 := [some (.ref 27), some (.int x1), some (.int x2), some (.int 0), none, none]) (st1 := []) rfl ?_
    exact h
set_option maxRecDepth 8000 in
/-- GrammarDeskModel.findFollows()V, at 54 -/
theorem sg_200_54 {d : Nat} {rr : List gk_S} {w w' : gk_Wd} {r : gk_Res} (hS : gk_Sh rr w) (x1 : Int32) (x2 : Int32) (x3 : Int32)
    (h : (gk_out x2 64 = false ∧ ((((w_a w 29).getD x2.toNatClampNeg 0) ≤ x3 → gk_W none (d + 1) 200 44 [some (.ref 27), some (.int x1), some (.int (x2 + 1)), none, none, none] [] w r w') ∧ (¬ (((w_a w 29).getD x2.toNatClampNeg 0) ≤ x3) → ((gk_out ((10 * x2) + x3) 640 = false) ∧ ((¬ (f_163 (f_151 w x2 x3)) = 0 → (∃ (v6 : Int32), gk_E d 197 [.ref 27, .int x2, .int (x3 + 1)] w (.inl (some (.int v6))) w ∧ (((v6 &&& 64) = 0 → ((gk_out ((10 * x2) + x3) 640 = false) ∧ ((gk_out ((10 * x2) + x3) 640 = false) ∧ (gk_out (f_151 w x2 x3) 16 = false ∧ (gk_out (f_151 w x2 x3) 16 = false ∧ gk_W none (d + 1) 200 54 [some (.ref 27), some (.int x1), some (.int x2), some (.int (x3 + 1)), none, none] [] (w_sa w 42 ((w_a w 42).set (f_151 w x2 x3).toNatClampNeg (((w_a w 42).getD (f_151 w x2 x3).toNatClampNeg 0) ||| (v6 &&& 63)))) r w'))))) ∧ (¬ ((v6 &&& 64) = 0) → (gk_out x2 64 = false ∧ (gk_out ((w_a w 28).getD x2.toNatClampNeg 0) 16 = false ∧ ((gk_out ((10 * x2) + x3) 640 = false) ∧ ((gk_out ((10 * x2) + x3) 640 = false) ∧ (gk_out (f_151 w x2 x3) 16 = false ∧ (gk_out (f_151 w x2 x3) 16 = false ∧ gk_W none (d + 1) 200 54 [some (.ref 27), some (.int x1), some (.int x2), some (.int (x3 + 1)), none, none] [] (w_sa w 42 ((w_a w 42).set (f_151 w x2 x3).toNatClampNeg (((w_a w 42).getD (f_151 w x2 x3).toNatClampNeg 0) ||| ((v6 &&& 63) ||| ((w_a w 42).getD ((w_a w 28).getD x2.toNatClampNeg 0).toNatClampNeg 0))))) r w')))))))))) ∧ ((f_163 (f_151 w x2 x3)) = 0 → gk_W none (d + 1) 200 54 [some (.ref 27), some (.int x1), some (.int x2), some (.int (x3 + 1)), none, none] [] w r w'))))))) :
    gk_W none (d + 1) 200 54 [some (.ref 27), some (.int x1), some (.int x2), some (.int x3), none, none] [] w r w' := by
  refine gk_W_s 2 (pc1 := 56) (l1 := [some (.ref 27), some (.int x1), some (.int x2), some (.int x3), none, none]) (st1 := [.ref 27, .int x3]) rfl ?_
  refine gk_W_h (i := .getfield 21) 59 rfl rfl (h_gr (a := 26) (k := 6) (m := 30) hS ly_26 rfl) rfl ?_
  refine gk_W_s 1 (pc1 := 60) (l1 := [some (.ref 27), some (.int x1), some (.int x2), some (.int x3), none, none]) (st1 := [.int x2, .ref 30, .int x3]) rfl ?_
  obtain ⟨hb1, h⟩ := h
  refine gk_W_h (i := .iaload) 61 rfl rfl (h_al (a := 29) (scr := none) hS ly_29 hb1) rfl ?_
  refine gk_W_b 1 (((w_a w 29).getD x2.toNatClampNeg 0) ≤ x3) (t := 151) (e := 64) (l1 := [some (.ref 27), some (.int x1), some (.int x2), some (.int x3), none, none]) (st1 := []) rfl (fun hp2 => ?_) (fun hp2 => ?_)
  · have h := h.1 hp2
    refine gk_W_s 2 (pc1 := 44) (l1 := [some (.ref 27), some (.int x1), some (.int (x2 + 1)), some (.int x3), none, none]) (st1 := []) rfl ?_
    exact gk_W_le (gk_le_s (gk_le_s (gk_le_s (gk_le_n (gk_le_s (gk_le_s (gk_le_0))))))) h
  · have h := h.2 hp2
    refine gk_W_s 3 (pc1 := 67) (l1 := [some (.ref 27), some (.int x1), some (.int x2), some (.int x3), none, none]) (st1 := [.int x3, .int x2, .ref 27]) rfl ?_
    obtain ⟨hb3, h⟩ := h
    refine gk_W_c (i := .invokevirtual 103) [.int (f_151 w x2 x3)] 70 rfl rfl (c_v (a := 26) hS ly_26 rfl rfl (Nat.le_of_ble_eq_true rfl)) (f_151_E hS x2 x3 hb3) rfl rfl ?_
    refine gk_W_c (i := .invokestatic 166) [.int (f_163 (f_151 w x2 x3))] 73 rfl rfl rfl (f_163_E (f_151 w x2 x3)) rfl rfl ?_
    refine gk_W_b 1 (¬ (f_163 (f_151 w x2 x3)) = 0) (t := 79) (e := 76) (l1 := [some (.ref 27), some (.int x1), some (.int x2), some (.int x3), none, none]) (st1 := []) rfl (fun hp4 => ?_) (fun hp4 => ?_)
    · have h := h.1 hp4
      refine gk_W_s 5 (pc1 := 84) (l1 := [some (.ref 27), some (.int x1), some (.int x2), some (.int x3), none, none]) (st1 := [.int (x3 + 1), .int x2, .ref 27]) rfl ?_
      obtain ⟨v6, hE5, h⟩ := h
      refine gk_W_c (i := .invokevirtual 258) [.int v6] 87 rfl rfl (c_v (a := 26) hS ly_26 rfl rfl (Nat.le_of_ble_eq_true rfl)) hE5 rfl rfl ?_
      refine gk_W_b 9 ((v6 &&& 64) = 0) (t := 120) (e := 104) (l1 := [some (.ref 27), some (.int x1), some (.int x2), some (.int x3), some (.int v6), some (.int (v6 &&& 63))]) (st1 := []) rfl (fun hp7 => ?_) (fun hp7 => ?_)
      · have h := h.1 hp7
        refine gk_W_s 1 (pc1 := 121) (l1 := [some (.ref 27), some (.int x1), some (.int x2), some (.int x3), some (.int v6), some (.int (v6 &&& 63))]) (st1 := [.ref 27]) rfl ?_
        refine gk_W_h (i := .getfield 61) 124 rfl rfl (h_gr (a := 26) (k := 23) (m := 43) hS ly_26 rfl) rfl ?_
        refine gk_W_s 3 (pc1 := 127) (l1 := [some (.ref 27), some (.int x1), some (.int x2), some (.int x3), some (.int v6), some (.int (v6 &&& 63))]) (st1 := [.int x3, .int x2, .ref 27, .ref 43]) rfl ?_
        obtain ⟨hb8, h⟩ := h
        refine gk_W_c (i := .invokevirtual 103) [.int (f_151 w x2 x3), .ref 43] 130 rfl rfl (c_v (a := 26) hS ly_26 rfl rfl (Nat.le_of_ble_eq_true rfl)) (f_151_E hS x2 x3 hb8) rfl rfl ?_
        refine gk_W_s 1 (pc1 := 131) (l1 := [some (.ref 27), some (.int x1), some (.int x2), some (.int x3), some (.int v6), some (.int (v6 &&& 63))]) (st1 := [.ref 27, .int (f_151 w x2 x3), .ref 43]) rfl ?_
        refine gk_W_h (i := .getfield 61) 134 rfl rfl (h_gr (a := 26) (k := 23) (m := 43) hS ly_26 rfl) rfl ?_
        refine gk_W_s 3 (pc1 := 137) (l1 := [some (.ref 27), some (.int x1), some (.int x2), some (.int x3), some (.int v6), some (.int (v6 &&& 63))]) (st1 := [.int x3, .int x2, .ref 27, .ref 43, .int (f_151 w x2 x3), .ref 43]) rfl ?_
        obtain ⟨hb9, h⟩ := h
        refine gk_W_c (i := .invokevirtual 103) [.int (f_151 w x2 x3), .ref 43, .int (f_151 w x2 x3), .ref 43] 140 rfl rfl (c_v (a := 26) hS ly_26 rfl rfl (Nat.le_of_ble_eq_true rfl)) (f_151_E hS x2 x3 hb9) rfl rfl ?_
        obtain ⟨hb10, h⟩ := h
        refine gk_W_h (i := .iaload) 141 rfl rfl (h_al (a := 42) (scr := none) hS ly_42 hb10) rfl ?_
        refine gk_W_s 2 (pc1 := 144) (l1 := [some (.ref 27), some (.int x1), some (.int x2), some (.int x3), some (.int v6), some (.int (v6 &&& 63))]) (st1 := [.int (((w_a w 42).getD (f_151 w x2 x3).toNatClampNeg 0) ||| (v6 &&& 63)), .int (f_151 w x2 x3), .ref 43]) rfl ?_
        obtain ⟨hb11, h⟩ := h
        refine gk_W_h (i := .iastore) 145 rfl rfl (h_as (a := 42) (t := 0) hS ly_42 hb11 rfl) rfl ?_
        refine gk_W_s 2 (pc1 := 54) (l1 := [some (.ref 27), some (.int x1), some (.int x2), some (.int (x3 + 1)), some (.int v6), some (.int (v6 &&& 63))]) (st1 := []) rfl ?_
        exact gk_W_le (gk_le_s (gk_le_s (gk_le_s (gk_le_s (gk_le_n (gk_le_n (gk_le_0))))))) h
      · have h := h.2 hp7
        refine gk_W_s 2 (pc1 := 107) (l1 := [some (.ref 27), some (.int x1), some (.int x2), some (.int x3), some (.int v6), some (.int (v6 &&& 63))]) (st1 := [.ref 27, .int (v6 &&& 63)]) rfl ?_
        refine gk_W_h (i := .getfield 61) 110 rfl rfl (h_gr (a := 26) (k := 23) (m := 43) hS ly_26 rfl) rfl ?_
        refine gk_W_s 1 (pc1 := 111) (l1 := [some (.ref 27), some (.int x1), some (.int x2), some (.int x3), some (.int v6), some (.int (v6 &&& 63))]) (st1 := [.ref 27, .ref 43, .int (v6 &&& 63)]) rfl ?_
        refine gk_W_h (i := .getfield 17) 114 rfl rfl (h_gr (a := 26) (k := 5) (m := 29) hS ly_26 rfl) rfl ?_
        refine gk_W_s 1 (pc1 := 115) (l1 := [some (.ref 27), some (.int x1), some (.int x2), some (.int x3), some (.int v6), some (.int (v6 &&& 63))]) (st1 := [.int x2, .ref 29, .ref 43, .int (v6 &&& 63)]) rfl ?_
        obtain ⟨hb12, h⟩ := h
        refine gk_W_h (i := .iaload) 116 rfl rfl (h_al (a := 28) (scr := none) hS ly_28 hb12) rfl ?_
        obtain ⟨hb13, h⟩ := h
        refine gk_W_h (i := .iaload) 117 rfl rfl (h_al (a := 42) (scr := none) hS ly_42 hb13) rfl ?_
        refine gk_W_s 3 (pc1 := 121) (l1 := [some (.ref 27), some (.int x1), some (.int x2), some (.int x3), some (.int v6), some (.int ((v6 &&& 63) ||| ((w_a w 42).getD ((w_a w 28).getD x2.toNatClampNeg 0).toNatClampNeg 0)))]) (st1 := [.ref 27]) rfl ?_
        refine gk_W_h (i := .getfield 61) 124 rfl rfl (h_gr (a := 26) (k := 23) (m := 43) hS ly_26 rfl) rfl ?_
        refine gk_W_s 3 (pc1 := 127) (l1 := [some (.ref 27), some (.int x1), some (.int x2), some (.int x3), some (.int v6), some (.int ((v6 &&& 63) ||| ((w_a w 42).getD ((w_a w 28).getD x2.toNatClampNeg 0).toNatClampNeg 0)))]) (st1 := [.int x3, .int x2, .ref 27, .ref 43]) rfl ?_
        obtain ⟨hb14, h⟩ := h
        refine gk_W_c (i := .invokevirtual 103) [.int (f_151 w x2 x3), .ref 43] 130 rfl rfl (c_v (a := 26) hS ly_26 rfl rfl (Nat.le_of_ble_eq_true rfl)) (f_151_E hS x2 x3 hb14) rfl rfl ?_
        refine gk_W_s 1 (pc1 := 131) (l1 := [some (.ref 27), some (.int x1), some (.int x2), some (.int x3), some (.int v6), some (.int ((v6 &&& 63) ||| ((w_a w 42).getD ((w_a w 28).getD x2.toNatClampNeg 0).toNatClampNeg 0)))]) (st1 := [.ref 27, .int (f_151 w x2 x3), .ref 43]) rfl ?_
        refine gk_W_h (i := .getfield 61) 134 rfl rfl (h_gr (a := 26) (k := 23) (m := 43) hS ly_26 rfl) rfl ?_
        refine gk_W_s 3 (pc1 := 137) (l1 := [some (.ref 27), some (.int x1), some (.int x2), some (.int x3), some (.int v6), some (.int ((v6 &&& 63) ||| ((w_a w 42).getD ((w_a w 28).getD x2.toNatClampNeg 0).toNatClampNeg 0)))]) (st1 := [.int x3, .int x2, .ref 27, .ref 43, .int (f_151 w x2 x3), .ref 43]) rfl ?_
        obtain ⟨hb15, h⟩ := h
        refine gk_W_c (i := .invokevirtual 103) [.int (f_151 w x2 x3), .ref 43, .int (f_151 w x2 x3), .ref 43] 140 rfl rfl (c_v (a := 26) hS ly_26 rfl rfl (Nat.le_of_ble_eq_true rfl)) (f_151_E hS x2 x3 hb15) rfl rfl ?_
        obtain ⟨hb16, h⟩ := h
        refine gk_W_h (i := .iaload) 141 rfl rfl (h_al (a := 42) (scr := none) hS ly_42 hb16) rfl ?_
        refine gk_W_s 2 (pc1 := 144) (l1 := [some (.ref 27), some (.int x1), some (.int x2), some (.int x3), some (.int v6), some (.int ((v6 &&& 63) ||| ((w_a w 42).getD ((w_a w 28).getD x2.toNatClampNeg 0).toNatClampNeg 0)))]) (st1 := [.int (((w_a w 42).getD (f_151 w x2 x3).toNatClampNeg 0) ||| ((v6 &&& 63) ||| ((w_a w 42).getD ((w_a w 28).getD x2.toNatClampNeg 0).toNatClampNeg 0))), .int (f_151 w x2 x3), .ref 43]) rfl ?_
        obtain ⟨hb17, h⟩ := h
        refine gk_W_h (i := .iastore) 145 rfl rfl (h_as (a := 42) (t := 0) hS ly_42 hb17 rfl) rfl ?_
        refine gk_W_s 2 (pc1 := 54) (l1 := [some (.ref 27), some (.int x1), some (.int x2), some (.int (x3 + 1)), some (.int v6), some (.int ((v6 &&& 63) ||| ((w_a w 42).getD ((w_a w 28).getD x2.toNatClampNeg 0).toNatClampNeg 0)))]) (st1 := []) rfl ?_
        exact gk_W_le (gk_le_s (gk_le_s (gk_le_s (gk_le_s (gk_le_n (gk_le_n (gk_le_0))))))) h
    · have h := h.2 (Decidable.not_not.mp hp4)
      refine gk_W_s 3 (pc1 := 54) (l1 := [some (.ref 27), some (.int x1), some (.int x2), some (.int (x3 + 1)), none, none]) (st1 := []) rfl ?_
      exact h
set_option maxRecDepth 8000 in
/-- GrammarDeskModel.single()Z, at 0 -/
theorem sg_201_0 {d : Nat} {rr : List gk_S} {w w' : gk_Wd} {r : gk_Res} (hS : gk_Sh rr w)
    (h : (∃ (w2 : gk_Wd), gk_E d 200 [.ref 27] (w_si w 26 0 0) (.inl none) w2 ∧ gk_Sh rr w2 ∧ gk_W none (d + 1) 201 13 [some (.ref 27), some (.int 1), some (.int 0), none] [] w2 r w')) :
    gk_W none (d + 1) 201 0 [some (.ref 27), none, none, none] [] w r w' := by
  refine gk_W_s 2 (pc1 := 2) (l1 := [some (.ref 27), none, none, none]) (st1 := [.int 0, .ref 27]) rfl ?_
  refine gk_W_h (i := .putfield 97) 5 rfl rfl (h_pi (a := 26) (k := 0) (x := 0) hS ly_26 rfl rfl) rfl ?_
  refine gk_W_s 1 (pc1 := 6) (l1 := [some (.ref 27), none, none, none]) (st1 := [.ref 27]) rfl ?_
  obtain ⟨w2, hE1, hS3, h⟩ := h
  refine gk_W_c (i := .invokevirtual 264) [] 9 rfl rfl (c_v (a := 26) (sh_si hS ly_26 (k := 0) rfl 0) ly_26 rfl rfl (Nat.le_of_ble_eq_true rfl)) hE1 rfl rfl ?_
  refine gk_W_s 4 (pc1 := 13) (l1 := [some (.ref 27), some (.int 1), some (.int 0), none]) (st1 := []) rfl ?_
  exact h
set_option maxRecDepth 8000 in
/-- GrammarDeskModel.single()Z, at 13 -/
theorem sg_201_13 {d : Nat} {rr : List gk_S} {w w' : gk_Wd} {r : gk_Res} (hS : gk_Sh rr w) (x1 : Int32) (x2 : Int32)
    (h : (((w_i w 26 4) ≤ x2 → (fits .boolean (.int x1) = true ∧ r = .inl (some (.int x1)) ∧ w' = w)) ∧ (¬ ((w_i w 26 4) ≤ x2) → gk_W none (d + 1) 201 25 [some (.ref 27), some (.int x1), some (.int x2), some (.int (x2 + 1))] [] w r w'))) :
    gk_W none (d + 1) 201 13 [some (.ref 27), some (.int x1), some (.int x2), none] [] w r w' := by
  refine gk_W_s 2 (pc1 := 15) (l1 := [some (.ref 27), some (.int x1), some (.int x2), none]) (st1 := [.ref 27, .int x2]) rfl ?_
  refine gk_W_h (i := .getfield 111) 18 rfl rfl (h_gi (a := 26) (k := 4) hS ly_26 rfl) rfl ?_
  refine gk_W_b 1 ((w_i w 26 4) ≤ x2) (t := 76) (e := 21) (l1 := [some (.ref 27), some (.int x1), some (.int x2), none]) (st1 := []) rfl (fun hp1 => ?_) (fun hp1 => ?_)
  · have h := h.1 hp1
    refine gk_W_s 1 (pc1 := 77) (l1 := [some (.ref 27), some (.int x1), some (.int x2), none]) (st1 := [.int x1]) rfl ?_
    obtain ⟨hf, rfl, rfl⟩ := h
    exact gk_W_r (i := .ireturn) rfl rfl (gk_ret_f hf)
  · have h := h.2 hp1
    refine gk_W_s 4 (pc1 := 25) (l1 := [some (.ref 27), some (.int x1), some (.int x2), some (.int (x2 + 1))]) (st1 := []) rfl ?_
    exact h
set_option maxRecDepth 8000 in
/-- GrammarDeskModel.single()Z, at 25 -/
theorem sg_201_25 {d : Nat} {rr : List gk_S} {w w' : gk_Wd} {r : gk_Res} (hS : gk_Sh rr w) (x1 : Int32) (x2 : Int32) (x3 : Int32)
    (h : (((w_i w 26 4) ≤ x3 → gk_W none (d + 1) 201 13 [some (.ref 27), some (.int x1), some (.int (x2 + 1)), none] [] w r w') ∧ (¬ ((w_i w 26 4) ≤ x3) → (gk_out x2 64 = false ∧ (gk_out x3 64 = false ∧ ((¬ ((w_a w 28).getD x2.toNatClampNeg 0) = ((w_a w 28).getD x3.toNatClampNeg 0) → gk_W none (d + 1) 201 25 [some (.ref 27), some (.int x1), some (.int x2), some (.int (x3 + 1))] [] w r w') ∧ (((w_a w 28).getD x2.toNatClampNeg 0) = ((w_a w 28).getD x3.toNatClampNeg 0) → (∃ (v6 : Int32), gk_E d 202 [.ref 27, .int x2] w (.inl (some (.int v6))) w ∧ (∃ (v8 : Int32), gk_E d 202 [.ref 27, .int x3] w (.inl (some (.int v8))) w ∧ (((v6 &&& v8) = 0 → gk_W none (d + 1) 201 25 [some (.ref 27), some (.int x1), some (.int x2), some (.int (x3 + 1))] [] w r w') ∧ (¬ ((v6 &&& v8) = 0) → gk_W none (d + 1) 201 25 [some (.ref 27), some (.int 0), some (.int x2), some (.int (x3 + 1))] [] w r w'))))))))))) :
    gk_W none (d + 1) 201 25 [some (.ref 27), some (.int x1), some (.int x2), some (.int x3)] [] w r w' := by
  refine gk_W_s 2 (pc1 := 27) (l1 := [some (.ref 27), some (.int x1), some (.int x2), some (.int x3)]) (st1 := [.ref 27, .int x3]) rfl ?_
  refine gk_W_h (i := .getfield 111) 30 rfl rfl (h_gi (a := 26) (k := 4) hS ly_26 rfl) rfl ?_
  refine gk_W_b 1 ((w_i w 26 4) ≤ x3) (t := 70) (e := 33) (l1 := [some (.ref 27), some (.int x1), some (.int x2), some (.int x3)]) (st1 := []) rfl (fun hp1 => ?_) (fun hp1 => ?_)
  · have h := h.1 hp1
    refine gk_W_s 2 (pc1 := 13) (l1 := [some (.ref 27), some (.int x1), some (.int (x2 + 1)), some (.int x3)]) (st1 := []) rfl ?_
    exact gk_W_le (gk_le_s (gk_le_s (gk_le_s (gk_le_n (gk_le_0))))) h
  · have h := h.2 hp1
    refine gk_W_s 1 (pc1 := 34) (l1 := [some (.ref 27), some (.int x1), some (.int x2), some (.int x3)]) (st1 := [.ref 27]) rfl ?_
    refine gk_W_h (i := .getfield 17) 37 rfl rfl (h_gr (a := 26) (k := 5) (m := 29) hS ly_26 rfl) rfl ?_
    refine gk_W_s 1 (pc1 := 38) (l1 := [some (.ref 27), some (.int x1), some (.int x2), some (.int x3)]) (st1 := [.int x2, .ref 29]) rfl ?_
    obtain ⟨hb2, h⟩ := h
    refine gk_W_h (i := .iaload) 39 rfl rfl (h_al (a := 28) (scr := none) hS ly_28 hb2) rfl ?_
    refine gk_W_s 1 (pc1 := 40) (l1 := [some (.ref 27), some (.int x1), some (.int x2), some (.int x3)]) (st1 := [.ref 27, .int ((w_a w 28).getD x2.toNatClampNeg 0)]) rfl ?_
    refine gk_W_h (i := .getfield 17) 43 rfl rfl (h_gr (a := 26) (k := 5) (m := 29) hS ly_26 rfl) rfl ?_
    refine gk_W_s 1 (pc1 := 44) (l1 := [some (.ref 27), some (.int x1), some (.int x2), some (.int x3)]) (st1 := [.int x3, .ref 29, .int ((w_a w 28).getD x2.toNatClampNeg 0)]) rfl ?_
    obtain ⟨hb3, h⟩ := h
    refine gk_W_h (i := .iaload) 45 rfl rfl (h_al (a := 28) (scr := none) hS ly_28 hb3) rfl ?_
    refine gk_W_b 1 (¬ ((w_a w 28).getD x2.toNatClampNeg 0) = ((w_a w 28).getD x3.toNatClampNeg 0)) (t := 64) (e := 48) (l1 := [some (.ref 27), some (.int x1), some (.int x2), some (.int x3)]) (st1 := []) rfl (fun hp4 => ?_) (fun hp4 => ?_)
    · have h := h.1 hp4
      refine gk_W_s 2 (pc1 := 25) (l1 := [some (.ref 27), some (.int x1), some (.int x2), some (.int (x3 + 1))]) (st1 := []) rfl ?_
      exact h
    · have h := h.2 (Decidable.not_not.mp hp4)
      refine gk_W_s 2 (pc1 := 50) (l1 := [some (.ref 27), some (.int x1), some (.int x2), some (.int x3)]) (st1 := [.int x2, .ref 27]) rfl ?_
      obtain ⟨v6, hE5, h⟩ := h
      refine gk_W_c (i := .invokevirtual 267) [.int v6] 53 rfl rfl (c_v (a := 26) hS ly_26 rfl rfl (Nat.le_of_ble_eq_true rfl)) hE5 rfl rfl ?_
      refine gk_W_s 2 (pc1 := 55) (l1 := [some (.ref 27), some (.int x1), some (.int x2), some (.int x3)]) (st1 := [.int x3, .ref 27, .int v6]) rfl ?_
      obtain ⟨v8, hE7, h⟩ := h
      refine gk_W_c (i := .invokevirtual 267) [.int v8, .int v6] 58 rfl rfl (c_v (a := 26) hS ly_26 rfl rfl (Nat.le_of_ble_eq_true rfl)) hE7 rfl rfl ?_
      refine gk_W_b 2 ((v6 &&& v8) = 0) (t := 64) (e := 62) (l1 := [some (.ref 27), some (.int x1), some (.int x2), some (.int x3)]) (st1 := []) rfl (fun hp9 => ?_) (fun hp9 => ?_)
      · have h := h.1 hp9
        refine gk_W_s 2 (pc1 := 25) (l1 := [some (.ref 27), some (.int x1), some (.int x2), some (.int (x3 + 1))]) (st1 := []) rfl ?_
        exact h
      · have h := h.2 hp9
        refine gk_W_s 4 (pc1 := 25) (l1 := [some (.ref 27), some (.int 0), some (.int x2), some (.int (x3 + 1))]) (st1 := []) rfl ?_
        exact h
set_option maxRecDepth 8000 in
/-- GrammarDeskModel.choosing(I)I, at 0 -/
theorem sg_202_0 {d : Nat} {rr : List gk_S} {w w' : gk_Wd} {r : gk_Res} (hS : gk_Sh rr w) (x1 : Int32)
    (h : (∃ (v2 : Int32), gk_E d 197 [.ref 27, .int x1, .int 0] w (.inl (some (.int v2))) w ∧ (((v2 &&& 64) = 0 → (r = .inl (some (.int v2)) ∧ w' = w)) ∧ (¬ ((v2 &&& 64) = 0) → (gk_out x1 64 = false ∧ (gk_out ((w_a w 28).getD x1.toNatClampNeg 0) 16 = false ∧ (r = .inl (some (.int ((v2 &&& 63) ||| ((w_a w 42).getD ((w_a w 28).getD x1.toNatClampNeg 0).toNatClampNeg 0)))) ∧ w' = w))))))) :
    gk_W none (d + 1) 202 0 [some (.ref 27), some (.int x1), none] [] w r w' := by
  refine gk_W_s 3 (pc1 := 3) (l1 := [some (.ref 27), some (.int x1), none]) (st1 := [.int 0, .int x1, .ref 27]) rfl ?_
  obtain ⟨v2, hE1, h⟩ := h
  refine gk_W_c (i := .invokevirtual 258) [.int v2] 6 rfl rfl (c_v (a := 26) hS ly_26 rfl rfl (Nat.le_of_ble_eq_true rfl)) hE1 rfl rfl ?_
  refine gk_W_b 5 ((v2 &&& 64) = 0) (t := 33) (e := 14) (l1 := [some (.ref 27), some (.int x1), some (.int v2)]) (st1 := []) rfl (fun hp3 => ?_) (fun hp3 => ?_)
  · have h := h.1 hp3
    refine gk_W_s 1 (pc1 := 34) (l1 := [some (.ref 27), some (.int x1), some (.int v2)]) (st1 := [.int v2]) rfl ?_
    obtain ⟨rfl, rfl⟩ := h
    exact gk_W_r (i := .ireturn) rfl rfl rfl
  · have h := h.2 hp3
    refine gk_W_s 4 (pc1 := 19) (l1 := [some (.ref 27), some (.int x1), some (.int v2)]) (st1 := [.ref 27, .int (v2 &&& 63)]) rfl ?_
    refine gk_W_h (i := .getfield 61) 22 rfl rfl (h_gr (a := 26) (k := 23) (m := 43) hS ly_26 rfl) rfl ?_
    refine gk_W_s 1 (pc1 := 23) (l1 := [some (.ref 27), some (.int x1), some (.int v2)]) (st1 := [.ref 27, .ref 43, .int (v2 &&& 63)]) rfl ?_
    refine gk_W_h (i := .getfield 17) 26 rfl rfl (h_gr (a := 26) (k := 5) (m := 29) hS ly_26 rfl) rfl ?_
    refine gk_W_s 1 (pc1 := 27) (l1 := [some (.ref 27), some (.int x1), some (.int v2)]) (st1 := [.int x1, .ref 29, .ref 43, .int (v2 &&& 63)]) rfl ?_
    obtain ⟨hb4, h⟩ := h
    refine gk_W_h (i := .iaload) 28 rfl rfl (h_al (a := 28) (scr := none) hS ly_28 hb4) rfl ?_
    obtain ⟨hb5, h⟩ := h
    refine gk_W_h (i := .iaload) 29 rfl rfl (h_al (a := 42) (scr := none) hS ly_42 hb5) rfl ?_
    refine gk_W_s 2 (pc1 := 34) (l1 := [some (.ref 27), some (.int x1), some (.int v2)]) (st1 := [.int ((v2 &&& 63) ||| ((w_a w 42).getD ((w_a w 28).getD x1.toNatClampNeg 0).toNatClampNeg 0))]) rfl ?_
    obtain ⟨rfl, rfl⟩ := h
    exact gk_W_r (i := .ireturn) rfl rfl rfl
set_option maxRecDepth 8000 in
/-- GrammarDeskModel.wipe()I, at 0 -/
theorem sg_204_0 {d : Nat} {rr : List gk_S} {w w' : gk_Wd} {r : gk_Res} (hS : gk_Sh rr w)
    (h : (((w_i (w_si w 26 0 0) 26 24) ≤ 0 → (r = .inl (some (.int (w_i (w_si w 26 0 0) 26 24))) ∧ w' = w_si (w_si w 26 0 0) 26 24 0)) ∧ (¬ ((w_i (w_si w 26 0 0) 26 24) ≤ 0) → (r = .inl (some (.int (w_i (w_si w 26 0 0) 26 24))) ∧ w' = w_si (w_si (w_si w 26 0 0) 26 24 0) 26 28 0)))) :
    gk_W none d 204 0 [some (.ref 27), none] [] w r w' := by
  refine gk_W_s 2 (pc1 := 2) (l1 := [some (.ref 27), none]) (st1 := [.int 0, .ref 27]) rfl ?_
  refine gk_W_h (i := .putfield 97) 5 rfl rfl (h_pi (a := 26) (k := 0) (x := 0) hS ly_26 rfl rfl) rfl ?_
  refine gk_W_s 1 (pc1 := 6) (l1 := [some (.ref 27), none]) (st1 := [.ref 27]) rfl ?_
  refine gk_W_h (i := .getfield 270) 9 rfl rfl (h_gi (a := 26) (k := 24) (sh_si hS ly_26 (k := 0) rfl 0) ly_26 rfl) rfl ?_
  refine gk_W_s 3 (pc1 := 12) (l1 := [some (.ref 27), some (.int (w_i (w_si w 26 0 0) 26 24))]) (st1 := [.int 0, .ref 27]) rfl ?_
  refine gk_W_h (i := .putfield 270) 15 rfl rfl (h_pi (a := 26) (k := 24) (x := 0) (sh_si hS ly_26 (k := 0) rfl 0) ly_26 rfl rfl) rfl ?_
  refine gk_W_b 2 ((w_i (w_si w 26 0 0) 26 24) ≤ 0) (t := 24) (e := 19) (l1 := [some (.ref 27), some (.int (w_i (w_si w 26 0 0) 26 24))]) (st1 := []) rfl (fun hp1 => ?_) (fun hp1 => ?_)
  · have h := h.1 hp1
    refine gk_W_s 1 (pc1 := 25) (l1 := [some (.ref 27), some (.int (w_i (w_si w 26 0 0) 26 24))]) (st1 := [.int (w_i (w_si w 26 0 0) 26 24)]) rfl ?_
    obtain ⟨rfl, rfl⟩ := h
    exact gk_W_r (i := .ireturn) rfl rfl rfl
  · have h := h.2 hp1
    refine gk_W_s 2 (pc1 := 21) (l1 := [some (.ref 27), some (.int (w_i (w_si w 26 0 0) 26 24))]) (st1 := [.int 0, .ref 27]) rfl ?_
    refine gk_W_h (i := .putfield 138) 24 rfl rfl (h_pi (a := 26) (k := 28) (x := 0) (sh_si (sh_si hS ly_26 (k := 0) rfl 0) ly_26 (k := 24) rfl 0) ly_26 rfl rfl) rfl ?_
    refine gk_W_s 1 (pc1 := 25) (l1 := [some (.ref 27), some (.int (w_i (w_si w 26 0 0) 26 24))]) (st1 := [.int (w_i (w_si w 26 0 0) 26 24)]) rfl ?_
    obtain ⟨rfl, rfl⟩ := h
    exact gk_W_r (i := .ireturn) rfl rfl rfl
set_option maxRecDepth 8000 in
/-- GrammarDeskModel.derives()Z, at 0 -/
theorem sg_205_0 {d : Nat} {rr : List gk_S} {w w' : gk_Wd} {r : gk_Res} (hS : gk_Sh rr w)
    (h : (∃ (w2 : gk_Wd), gk_E d 206 [.ref 27] (w_si w 26 0 0) (.inl none) w2 ∧ gk_Sh rr w2 ∧ ((¬ ((((w_a w2 44).getD 0 0) >>> ((w_i w2 26 24) &&& 31)) &&& 1) = 1 → (r = .inl (some (.int 0)) ∧ w' = w2)) ∧ (((((w_a w2 44).getD 0 0) >>> ((w_i w2 26 24) &&& 31)) &&& 1) = 1 → (r = .inl (some (.int 1)) ∧ w' = w2))))) :
    gk_W none (d + 1) 205 0 [some (.ref 27)] [] w r w' := by
  refine gk_W_s 2 (pc1 := 2) (l1 := [some (.ref 27)]) (st1 := [.int 0, .ref 27]) rfl ?_
  refine gk_W_h (i := .putfield 97) 5 rfl rfl (h_pi (a := 26) (k := 0) (x := 0) hS ly_26 rfl rfl) rfl ?_
  refine gk_W_s 1 (pc1 := 6) (l1 := [some (.ref 27)]) (st1 := [.ref 27]) rfl ?_
  obtain ⟨w2, hE1, hS3, h⟩ := h
  refine gk_W_c (i := .invokevirtual 276) [] 9 rfl rfl (c_v (a := 26) (sh_si hS ly_26 (k := 0) rfl 0) ly_26 rfl rfl (Nat.le_of_ble_eq_true rfl)) hE1 rfl rfl ?_
  refine gk_W_s 1 (pc1 := 10) (l1 := [some (.ref 27)]) (st1 := [.ref 27]) rfl ?_
  refine gk_W_h (i := .getfield 67) 13 rfl rfl (h_gr (a := 26) (k := 26) (m := 45) hS3 ly_26 rfl) rfl ?_
  refine gk_W_s 1 (pc1 := 14) (l1 := [some (.ref 27)]) (st1 := [.int 0, .ref 45]) rfl ?_
  refine gk_W_h (i := .iaload) 15 rfl rfl (h_al (a := 44) (scr := none) hS3 ly_44 rfl) rfl ?_
  refine gk_W_s 1 (pc1 := 16) (l1 := [some (.ref 27)]) (st1 := [.ref 27, .int ((w_a w2 44).getD 0 0)]) rfl ?_
  refine gk_W_h (i := .getfield 270) 19 rfl rfl (h_gi (a := 26) (k := 24) hS3 ly_26 rfl) rfl ?_
  refine gk_W_b 5 (¬ ((((w_a w2 44).getD 0 0) >>> ((w_i w2 26 24) &&& 31)) &&& 1) = 1) (t := 30) (e := 26) (l1 := [some (.ref 27)]) (st1 := []) rfl (fun hp4 => ?_) (fun hp4 => ?_)
  · have h := h.1 hp4
    refine gk_W_s 1 (pc1 := 31) (l1 := [some (.ref 27)]) (st1 := [.int 0]) rfl ?_
    obtain ⟨rfl, rfl⟩ := h
    exact gk_W_r (i := .ireturn) rfl rfl rfl
  · have h := h.2 (Decidable.not_not.mp hp4)
    refine gk_W_s 2 (pc1 := 31) (l1 := [some (.ref 27)]) (st1 := [.int 1]) rfl ?_
    obtain ⟨rfl, rfl⟩ := h
    exact gk_W_r (i := .ireturn) rfl rfl rfl
set_option maxRecDepth 8000 in
/-- GrammarDeskModel.findEnds()V, at 0 -/
theorem sg_206_0 {d : Nat} {rr : List gk_S} {w w' : gk_Wd} {r : gk_Res} (hS : gk_Sh rr w)
    (h : gk_W none (d + 1) 206 2 [some (.ref 27), some (.int 0), none, none, none, none] [] w r w') :
    gk_W none (d + 1) 206 0 [some (.ref 27), none, none, none, none, none] [] w r w' := by
  refine gk_W_s 2 (pc1 := 2) (l1 := [some (.ref 27), some (.int 0), none, none, none, none]) (st1 := []) rfl ?_
  exact h
set_option maxRecDepth 8000 in
/-- GrammarDeskModel.findEnds()V, at 2 -/
theorem sg_206_2 {d : Nat} {rr : List gk_S} {w w' : gk_Wd} {r : gk_Res} (hS : gk_Sh rr w) (x1 : Int32)
    (h : ((176 ≤ x1 → gk_W none (d + 1) 206 24 [some (.ref 27), some (.int 1), none, none, none, none] [] w r w') ∧ (¬ (176 ≤ x1) → (gk_out x1 176 = false ∧ gk_W none (d + 1) 206 2 [some (.ref 27), some (.int (x1 + 1)), none, none, none, none] [] (w_sa w 44 ((w_a w 44).set x1.toNatClampNeg 0)) r w')))) :
    gk_W none (d + 1) 206 2 [some (.ref 27), some (.int x1), none, none, none, none] [] w r w' := by
  refine gk_W_b 3 (176 ≤ x1) (t := 22) (e := 9) (l1 := [some (.ref 27), some (.int x1), none, none, none, none]) (st1 := []) rfl (fun hp1 => ?_) (fun hp1 => ?_)
  · have h := h.1 hp1
    refine gk_W_s 2 (pc1 := 24) (l1 := [some (.ref 27), some (.int 1), none, none, none, none]) (st1 := []) rfl ?_
    exact h
  · have h := h.2 hp1
    refine gk_W_s 1 (pc1 := 10) (l1 := [some (.ref 27), some (.int x1), none, none, none, none]) (st1 := [.ref 27]) rfl ?_
    refine gk_W_h (i := .getfield 67) 13 rfl rfl (h_gr (a := 26) (k := 26) (m := 45) hS ly_26 rfl) rfl ?_
    refine gk_W_s 2 (pc1 := 15) (l1 := [some (.ref 27), some (.int x1), none, none, none, none]) (st1 := [.int 0, .int x1, .ref 45]) rfl ?_
    obtain ⟨hb2, h⟩ := h
    refine gk_W_h (i := .iastore) 16 rfl rfl (h_as (a := 44) (t := 0) hS ly_44 hb2 rfl) rfl ?_
    refine gk_W_s 2 (pc1 := 2) (l1 := [some (.ref 27), some (.int (x1 + 1)), none, none, none, none]) (st1 := []) rfl ?_
    exact h
set_option maxRecDepth 8000 in
/-- GrammarDeskModel.findEnds()V, at 24 -/
theorem sg_206_24 {d : Nat} {rr : List gk_S} {w w' : gk_Wd} {r : gk_Res} (hS : gk_Sh rr w) (x1 : Int32)
    (h : ((x1 = 0 → (r = .inl none ∧ w' = w)) ∧ (¬ (x1 = 0) → gk_W none (d + 1) 206 32 [some (.ref 27), some (.int 0), some (.int 0), none, none, none] [] w r w'))) :
    gk_W none (d + 1) 206 24 [some (.ref 27), some (.int x1), none, none, none, none] [] w r w' := by
  refine gk_W_b 2 (x1 = 0) (t := 160) (e := 28) (l1 := [some (.ref 27), some (.int x1), none, none, none, none]) (st1 := []) rfl (fun hp1 => ?_) (fun hp1 => ?_)
  · have h := h.1 hp1
    obtain ⟨rfl, rfl⟩ := h
    exact gk_W_r (i := .return_) rfl rfl rfl
  · have h := h.2 hp1
    refine gk_W_s 4 (pc1 := 32) (l1 := [some (.ref 27), some (.int 0), some (.int 0), none, none, none]) (st1 := []) rfl ?_
    exact h
set_option maxRecDepth 8000 in
/-- GrammarDeskModel.findEnds()V, at 32 -/
theorem sg_206_32 {d : Nat} {rr : List gk_S} {w w' : gk_Wd} {r : gk_Res} (hS : gk_Sh rr w) (x1 : Int32) (x2 : Int32)
    (h : (((w_i w 26 4) ≤ x2 → gk_W none (d + 1) 206 24 [some (.ref 27), some (.int x1), none, none, none, none] [] w r w') ∧ (¬ ((w_i w 26 4) ≤ x2) → gk_W none (d + 1) 206 42 [some (.ref 27), some (.int x1), some (.int x2), some (.int 0), none, none] [] w r w'))) :
    gk_W none (d + 1) 206 32 [some (.ref 27), some (.int x1), some (.int x2), none, none, none] [] w r w' := by
  refine gk_W_s 2 (pc1 := 34) (l1 := [some (.ref 27), some (.int x1), some (.int x2), none, none, none]) (st1 := [.ref 27, .int x2]) rfl ?_
  refine gk_W_h (i := .getfield 111) 37 rfl rfl (h_gi (a := 26) (k := 4) hS ly_26 rfl) rfl ?_
  refine gk_W_b 1 ((w_i w 26 4) ≤ x2) (t := 157) (e := 40) (l1 := [some (.ref 27), some (.int x1), some (.int x2), none, none, none]) (st1 := []) rfl (fun hp1 => ?_) (fun hp1 => ?_)
  · have h := h.1 hp1
    refine gk_W_s 1 (pc1 := 24) (l1 := [some (.ref 27), some (.int x1), some (.int x2), none, none, none]) (st1 := []) rfl ?_
    exact gk_W_le (gk_le_s (gk_le_s (gk_le_n (gk_le_s (gk_le_s (gk_le_s (gk_le_0))))))) h
  · have h := h.2 hp1
    refine gk_W_s 2 (pc1 := 42) (l1 := [some (.ref 27), some (.int x1), some (.int x2), some (.int 0), none, none]) (st1 := []) rfl ?_
    exact h
set_option maxRecDepth 8000 in
/-- GrammarDeskModel.findEnds()V, at 42 -/
theorem sg_206_42 {d : Nat} {rr : List gk_S} {w w' : gk_Wd} {r : gk_Res} (hS : gk_Sh rr w) (x1 : Int32) (x2 : Int32) (x3 : Int32)
    (h : (((w_i w 26 24) < x3 → gk_W none (d + 1) 206 32 [some (.ref 27), some (.int x1), some (.int (x2 + 1)), none, none, none] [] w r w') ∧ (¬ ((w_i w 26 24) < x3) → gk_W none (d + 1) 206 58 [some (.ref 27), some (.int x1), some (.int x2), some (.int x3), some (.int (1 <<< (x3 &&& 31))), some (.int 0)] [] w r w'))) :
    gk_W none (d + 1) 206 42 [some (.ref 27), some (.int x1), some (.int x2), some (.int x3), none, none] [] w r w' := by
  refine gk_W_s 2 (pc1 := 44) (l1 := [some (.ref 27), some (.int x1), some (.int x2), some (.int x3), none, none]) (st1 := [.ref 27, .int x3]) rfl ?_
  refine gk_W_h (i := .getfield 270) 47 rfl rfl (h_gi (a := 26) (k := 24) hS ly_26 rfl) rfl ?_
  refine gk_W_b 1 ((w_i w 26 24) < x3) (t := 151) (e := 50) (l1 := [some (.ref 27), some (.int x1), some (.int x2), some (.int x3), none, none]) (st1 := []) rfl (fun hp1 => ?_) (fun hp1 => ?_)
  · have h := h.1 hp1
    refine gk_W_s 2 (pc1 := 32) (l1 := [some (.ref 27), some (.int x1), some (.int (x2 + 1)), some (.int x3), none, none]) (st1 := []) rfl ?_
    exact gk_W_le (gk_le_s (gk_le_s (gk_le_s (gk_le_n (gk_le_s (gk_le_s (gk_le_0))))))) h
  · have h := h.2 hp1
    refine gk_W_s 6 (pc1 := 58) (l1 := [some (.ref 27), some (.int x1), some (.int x2), some (.int x3), some (.int (1 <<< (x3 &&& 31))), some (.int 0)]) (st1 := []) rfl ?_
    exact h
set_option maxRecDepth 8000 in
/-- GrammarDeskModel.findEnds()V, at 58 -/
theorem sg_206_58 {d : Nat} {rr : List gk_S} {w w' : gk_Wd} {r : gk_Res} (hS : gk_Sh rr w) (x1 : Int32) (x2 : Int32) (x3 : Int32) (x4 : Int32) (x5 : Int32)
    (h : (gk_out x2 64 = false ∧ ((((w_a w 29).getD x2.toNatClampNeg 0) ≤ x5 → (gk_out x2 64 = false ∧ (gk_out ((11 * ((w_a w 28).getD x2.toNatClampNeg 0)) + x3) 176 = false ∧ (gk_out ((11 * ((w_a w 28).getD x2.toNatClampNeg 0)) + x3) 176 = false ∧ ((¬ (((w_a w 44).getD ((11 * ((w_a w 28).getD x2.toNatClampNeg 0)) + x3).toNatClampNeg 0) ||| x4) = ((w_a w 44).getD ((11 * ((w_a w 28).getD x2.toNatClampNeg 0)) + x3).toNatClampNeg 0) → (gk_out ((11 * ((w_a w 28).getD x2.toNatClampNeg 0)) + x3) 176 = false ∧ (gk_out ((11 * ((w_a w 28).getD x2.toNatClampNeg 0)) + x3) 176 = false ∧ gk_W none (d + 1) 206 42 [some (.ref 27), some (.int 1), some (.int x2), some (.int (x3 + 1)), none, none] [] (w_sa w 44 ((w_a w 44).set ((11 * ((w_a w 28).getD x2.toNatClampNeg 0)) + x3).toNatClampNeg (((w_a w 44).getD ((11 * ((w_a w 28).getD x2.toNatClampNeg 0)) + x3).toNatClampNeg 0) ||| x4))) r w'))) ∧ ((((w_a w 44).getD ((11 * ((w_a w 28).getD x2.toNatClampNeg 0)) + x3).toNatClampNeg 0) ||| x4) = ((w_a w 44).getD ((11 * ((w_a w 28).getD x2.toNatClampNeg 0)) + x3).toNatClampNeg 0) → gk_W none (d + 1) 206 42 [some (.ref 27), some (.int x1), some (.int x2), some (.int (x3 + 1)), none, none] [] w r w')))))) ∧ (¬ (((w_a w 29).getD x2.toNatClampNeg 0) ≤ x5) → ((gk_out ((10 * x2) + x5) 640 = false) ∧ (∃ (v11 : Int32), gk_E d 207 [.ref 27, .int (f_151 w x2 x5), .int x4] w (.inl (some (.int v11))) w ∧ gk_W none (d + 1) 206 58 [some (.ref 27), some (.int x1), some (.int x2), some (.int x3), some (.int v11), some (.int (x5 + 1))] [] w r w')))))) :
    gk_W none (d + 1) 206 58 [some (.ref 27), some (.int x1), some (.int x2), some (.int x3), some (.int x4), some (.int x5)] [] w r w' := by
  refine gk_W_s 2 (pc1 := 61) (l1 := [some (.ref 27), some (.int x1), some (.int x2), some (.int x3), some (.int x4), some (.int x5)]) (st1 := [.ref 27, .int x5]) rfl ?_
  refine gk_W_h (i := .getfield 21) 64 rfl rfl (h_gr (a := 26) (k := 6) (m := 30) hS ly_26 rfl) rfl ?_
  refine gk_W_s 1 (pc1 := 65) (l1 := [some (.ref 27), some (.int x1), some (.int x2), some (.int x3), some (.int x4), some (.int x5)]) (st1 := [.int x2, .ref 30, .int x5]) rfl ?_
  obtain ⟨hb1, h⟩ := h
  refine gk_W_h (i := .iaload) 66 rfl rfl (h_al (a := 29) (scr := none) hS ly_29 hb1) rfl ?_
  refine gk_W_b 1 (((w_a w 29).getD x2.toNatClampNeg 0) ≤ x5) (t := 90) (e := 69) (l1 := [some (.ref 27), some (.int x1), some (.int x2), some (.int x3), some (.int x4), some (.int x5)]) (st1 := []) rfl (fun hp2 => ?_) (fun hp2 => ?_)
  · have h := h.1 hp2
    refine gk_W_s 2 (pc1 := 93) (l1 := [some (.ref 27), some (.int x1), some (.int x2), some (.int x3), some (.int x4), some (.int x5)]) (st1 := [.ref 27, .int 11]) rfl ?_
    refine gk_W_h (i := .getfield 17) 96 rfl rfl (h_gr (a := 26) (k := 5) (m := 29) hS ly_26 rfl) rfl ?_
    refine gk_W_s 1 (pc1 := 97) (l1 := [some (.ref 27), some (.int x1), some (.int x2), some (.int x3), some (.int x4), some (.int x5)]) (st1 := [.int x2, .ref 29, .int 11]) rfl ?_
    obtain ⟨hb3, h⟩ := h
    refine gk_W_h (i := .iaload) 98 rfl rfl (h_al (a := 28) (scr := none) hS ly_28 hb3) rfl ?_
    refine gk_W_s 5 (pc1 := 104) (l1 := [some (.ref 27), some (.int x1), some (.int x2), some (.int x3), some (.int x4), some (.int ((11 * ((w_a w 28).getD x2.toNatClampNeg 0)) + x3))]) (st1 := [.ref 27]) rfl ?_
    refine gk_W_h (i := .getfield 67) 107 rfl rfl (h_gr (a := 26) (k := 26) (m := 45) hS ly_26 rfl) rfl ?_
    refine gk_W_s 1 (pc1 := 109) (l1 := [some (.ref 27), some (.int x1), some (.int x2), some (.int x3), some (.int x4), some (.int ((11 * ((w_a w 28).getD x2.toNatClampNeg 0)) + x3))]) (st1 := [.int ((11 * ((w_a w 28).getD x2.toNatClampNeg 0)) + x3), .ref 45]) rfl ?_
    obtain ⟨hb4, h⟩ := h
    refine gk_W_h (i := .iaload) 110 rfl rfl (h_al (a := 44) (scr := none) hS ly_44 hb4) rfl ?_
    refine gk_W_s 3 (pc1 := 114) (l1 := [some (.ref 27), some (.int x1), some (.int x2), some (.int x3), some (.int x4), some (.int ((11 * ((w_a w 28).getD x2.toNatClampNeg 0)) + x3))]) (st1 := [.ref 27, .int (((w_a w 44).getD ((11 * ((w_a w 28).getD x2.toNatClampNeg 0)) + x3).toNatClampNeg 0) ||| x4)]) rfl ?_
    refine gk_W_h (i := .getfield 67) 117 rfl rfl (h_gr (a := 26) (k := 26) (m := 45) hS ly_26 rfl) rfl ?_
    refine gk_W_s 1 (pc1 := 119) (l1 := [some (.ref 27), some (.int x1), some (.int x2), some (.int x3), some (.int x4), some (.int ((11 * ((w_a w 28).getD x2.toNatClampNeg 0)) + x3))]) (st1 := [.int ((11 * ((w_a w 28).getD x2.toNatClampNeg 0)) + x3), .ref 45, .int (((w_a w 44).getD ((11 * ((w_a w 28).getD x2.toNatClampNeg 0)) + x3).toNatClampNeg 0) ||| x4)]) rfl ?_
    obtain ⟨hb5, h⟩ := h
    refine gk_W_h (i := .iaload) 120 rfl rfl (h_al (a := 44) (scr := none) hS ly_44 hb5) rfl ?_
    refine gk_W_b 1 (¬ (((w_a w 44).getD ((11 * ((w_a w 28).getD x2.toNatClampNeg 0)) + x3).toNatClampNeg 0) ||| x4) = ((w_a w 44).getD ((11 * ((w_a w 28).getD x2.toNatClampNeg 0)) + x3).toNatClampNeg 0)) (t := 126) (e := 123) (l1 := [some (.ref 27), some (.int x1), some (.int x2), some (.int x3), some (.int x4), some (.int ((11 * ((w_a w 28).getD x2.toNatClampNeg 0)) + x3))]) (st1 := []) rfl (fun hp6 => ?_) (fun hp6 => ?_)
    · have h := h.1 hp6
      refine gk_W_s 1 (pc1 := 127) (l1 := [some (.ref 27), some (.int x1), some (.int x2), some (.int x3), some (.int x4), some (.int ((11 * ((w_a w 28).getD x2.toNatClampNeg 0)) + x3))]) (st1 := [.ref 27]) rfl ?_
      refine gk_W_h (i := .getfield 67) 130 rfl rfl (h_gr (a := 26) (k := 26) (m := 45) hS ly_26 rfl) rfl ?_
      refine gk_W_s 2 (pc1 := 133) (l1 := [some (.ref 27), some (.int x1), some (.int x2), some (.int x3), some (.int x4), some (.int ((11 * ((w_a w 28).getD x2.toNatClampNeg 0)) + x3))]) (st1 := [.ref 27, .int ((11 * ((w_a w 28).getD x2.toNatClampNeg 0)) + x3), .ref 45]) rfl ?_
      refine gk_W_h (i := .getfield 67) 136 rfl rfl (h_gr (a := 26) (k := 26) (m := 45) hS ly_26 rfl) rfl ?_
      refine gk_W_s 1 (pc1 := 138) (l1 := [some (.ref 27), some (.int x1), some (.int x2), some (.int x3), some (.int x4), some (.int ((11 * ((w_a w 28).getD x2.toNatClampNeg 0)) + x3))]) (st1 := [.int ((11 * ((w_a w 28).getD x2.toNatClampNeg 0)) + x3), .ref 45, .int ((11 * ((w_a w 28).getD x2.toNatClampNeg 0)) + x3), .ref 45]) rfl ?_
      obtain ⟨hb7, h⟩ := h
      refine gk_W_h (i := .iaload) 139 rfl rfl (h_al (a := 44) (scr := none) hS ly_44 hb7) rfl ?_
      refine gk_W_s 2 (pc1 := 142) (l1 := [some (.ref 27), some (.int x1), some (.int x2), some (.int x3), some (.int x4), some (.int ((11 * ((w_a w 28).getD x2.toNatClampNeg 0)) + x3))]) (st1 := [.int (((w_a w 44).getD ((11 * ((w_a w 28).getD x2.toNatClampNeg 0)) + x3).toNatClampNeg 0) ||| x4), .int ((11 * ((w_a w 28).getD x2.toNatClampNeg 0)) + x3), .ref 45]) rfl ?_
      obtain ⟨hb8, h⟩ := h
      refine gk_W_h (i := .iastore) 143 rfl rfl (h_as (a := 44) (t := 0) hS ly_44 hb8 rfl) rfl ?_
      refine gk_W_s 4 (pc1 := 42) (l1 := [some (.ref 27), some (.int 1), some (.int x2), some (.int (x3 + 1)), some (.int x4), some (.int ((11 * ((w_a w 28).getD x2.toNatClampNeg 0)) + x3))]) (st1 := []) rfl ?_
      exact gk_W_le (gk_le_s (gk_le_s (gk_le_s (gk_le_s (gk_le_n (gk_le_n (gk_le_0))))))) h
    · have h := h.2 (Decidable.not_not.mp hp6)
      refine gk_W_s 3 (pc1 := 42) (l1 := [some (.ref 27), some (.int x1), some (.int x2), some (.int (x3 + 1)), some (.int x4), some (.int ((11 * ((w_a w 28).getD x2.toNatClampNeg 0)) + x3))]) (st1 := []) rfl ?_
      exact gk_W_le (gk_le_s (gk_le_s (gk_le_s (gk_le_s (gk_le_n (gk_le_n (gk_le_0))))))) h
  · have h := h.2 hp2
    refine gk_W_s 4 (pc1 := 74) (l1 := [some (.ref 27), some (.int x1), some (.int x2), some (.int x3), some (.int x4), some (.int x5)]) (st1 := [.int x5, .int x2, .ref 27, .ref 27]) rfl ?_
    obtain ⟨hb9, h⟩ := h
    refine gk_W_c (i := .invokevirtual 103) [.int (f_151 w x2 x5), .ref 27] 77 rfl rfl (c_v (a := 26) hS ly_26 rfl rfl (Nat.le_of_ble_eq_true rfl)) (f_151_E hS x2 x5 hb9) rfl rfl ?_
    refine gk_W_s 1 (pc1 := 79) (l1 := [some (.ref 27), some (.int x1), some (.int x2), some (.int x3), some (.int x4), some (.int x5)]) (st1 := [.int x4, .int (f_151 w x2 x5), .ref 27]) rfl ?_
    obtain ⟨v11, hE10, h⟩ := h
    refine gk_W_c (i := .invokevirtual 273) [.int v11] 82 rfl rfl (c_v (a := 26) hS ly_26 rfl rfl (Nat.le_of_ble_eq_true rfl)) hE10 rfl rfl ?_
    refine gk_W_s 3 (pc1 := 58) (l1 := [some (.ref 27), some (.int x1), some (.int x2), some (.int x3), some (.int v11), some (.int (x5 + 1))]) (st1 := []) rfl ?_
    exact h
set_option maxRecDepth 8000 in
/-- GrammarDeskModel.reachOf(II)I, at 0 -/
theorem sg_207_0 {d : Nat} {rr : List gk_S} {w w' : gk_Wd} {r : gk_Res} (hS : gk_Sh rr w) (x1 : Int32) (x2 : Int32)
    (h : gk_W none (d + 1) 207 5 [some (.ref 27), some (.int x1), some (.int x2), some (.int 0), some (.int 0)] [] w r w') :
    gk_W none (d + 1) 207 0 [some (.ref 27), some (.int x1), some (.int x2), none, none] [] w r w' := by
  refine gk_W_s 4 (pc1 := 5) (l1 := [some (.ref 27), some (.int x1), some (.int x2), some (.int 0), some (.int 0)]) (st1 := []) rfl ?_
  exact h
set_option maxRecDepth 8000 in
/-- GrammarDeskModel.reachOf(II)I, at 5 -/
theorem sg_207_5 {d : Nat} {rr : List gk_S} {w w' : gk_Wd} {r : gk_Res} (hS : gk_Sh rr w) (x1 : Int32) (x2 : Int32) (x3 : Int32) (x4 : Int32)
    (h : (((w_i w 26 24) < x4 → (r = .inl (some (.int x3)) ∧ w' = w)) ∧ (¬ ((w_i w 26 24) < x4) → ((¬ ((x2 >>> (x4 &&& 31)) &&& 1) = 0 → (((f_163 x1) = 0 → (((w_i w 26 24) ≤ x4 → gk_W none (d + 1) 207 5 [some (.ref 27), some (.int x1), some (.int x2), some (.int x3), some (.int (x4 + 1))] [] w r w') ∧ (¬ ((w_i w 26 24) ≤ x4) → (gk_out x4 10 = false ∧ ((¬ ((w_a w 43).getD x4.toNatClampNeg 0) = x1 → gk_W none (d + 1) 207 5 [some (.ref 27), some (.int x1), some (.int x2), some (.int x3), some (.int (x4 + 1))] [] w r w') ∧ (((w_a w 43).getD x4.toNatClampNeg 0) = x1 → gk_W none (d + 1) 207 5 [some (.ref 27), some (.int x1), some (.int x2), some (.int (x3 ||| (1 <<< ((x4 + 1) &&& 31)))), some (.int (x4 + 1))] [] w r w')))))) ∧ (¬ ((f_163 x1) = 0) → (gk_out ((11 * x1) + x4) 176 = false ∧ gk_W none (d + 1) 207 5 [some (.ref 27), some (.int x1), some (.int x2), some (.int (x3 ||| ((w_a w 44).getD ((11 * x1) + x4).toNatClampNeg 0))), some (.int (x4 + 1))] [] w r w')))) ∧ (((x2 >>> (x4 &&& 31)) &&& 1) = 0 → gk_W none (d + 1) 207 5 [some (.ref 27), some (.int x1), some (.int x2), some (.int x3), some (.int (x4 + 1))] [] w r w'))))) :
    gk_W none (d + 1) 207 5 [some (.ref 27), some (.int x1), some (.int x2), some (.int x3), some (.int x4)] [] w r w' := by
  refine gk_W_s 2 (pc1 := 8) (l1 := [some (.ref 27), some (.int x1), some (.int x2), some (.int x3), some (.int x4)]) (st1 := [.ref 27, .int x4]) rfl ?_
  refine gk_W_h (i := .getfield 270) 11 rfl rfl (h_gi (a := 26) (k := 24) hS ly_26 rfl) rfl ?_
  refine gk_W_b 1 ((w_i w 26 24) < x4) (t := 86) (e := 14) (l1 := [some (.ref 27), some (.int x1), some (.int x2), some (.int x3), some (.int x4)]) (st1 := []) rfl (fun hp1 => ?_) (fun hp1 => ?_)
  · have h := h.1 hp1
    refine gk_W_s 1 (pc1 := 87) (l1 := [some (.ref 27), some (.int x1), some (.int x2), some (.int x3), some (.int x4)]) (st1 := [.int x3]) rfl ?_
    obtain ⟨rfl, rfl⟩ := h
    exact gk_W_r (i := .ireturn) rfl rfl rfl
  · have h := h.2 hp1
    refine gk_W_b 6 (¬ ((x2 >>> (x4 &&& 31)) &&& 1) = 0) (t := 26) (e := 23) (l1 := [some (.ref 27), some (.int x1), some (.int x2), some (.int x3), some (.int x4)]) (st1 := []) rfl (fun hp2 => ?_) (fun hp2 => ?_)
    · have h := h.1 hp2
      refine gk_W_s 1 (pc1 := 27) (l1 := [some (.ref 27), some (.int x1), some (.int x2), some (.int x3), some (.int x4)]) (st1 := [.int x1]) rfl ?_
      refine gk_W_c (i := .invokestatic 166) [.int (f_163 x1)] 30 rfl rfl rfl (f_163_E x1) rfl rfl ?_
      refine gk_W_b 1 ((f_163 x1) = 0) (t := 51) (e := 33) (l1 := [some (.ref 27), some (.int x1), some (.int x2), some (.int x3), some (.int x4)]) (st1 := []) rfl (fun hp3 => ?_) (fun hp3 => ?_)
      · have h := h.1 hp3
        refine gk_W_s 2 (pc1 := 54) (l1 := [some (.ref 27), some (.int x1), some (.int x2), some (.int x3), some (.int x4)]) (st1 := [.ref 27, .int x4]) rfl ?_
        refine gk_W_h (i := .getfield 270) 57 rfl rfl (h_gi (a := 26) (k := 24) hS ly_26 rfl) rfl ?_
        refine gk_W_b 1 ((w_i w 26 24) ≤ x4) (t := 80) (e := 60) (l1 := [some (.ref 27), some (.int x1), some (.int x2), some (.int x3), some (.int x4)]) (st1 := []) rfl (fun hp4 => ?_) (fun hp4 => ?_)
        · have h := h.1 hp4
          refine gk_W_s 2 (pc1 := 5) (l1 := [some (.ref 27), some (.int x1), some (.int x2), some (.int x3), some (.int (x4 + 1))]) (st1 := []) rfl ?_
          exact h
        · have h := h.2 hp4
          refine gk_W_s 1 (pc1 := 61) (l1 := [some (.ref 27), some (.int x1), some (.int x2), some (.int x3), some (.int x4)]) (st1 := [.ref 27]) rfl ?_
          refine gk_W_h (i := .getfield 64) 64 rfl rfl (h_gr (a := 26) (k := 25) (m := 44) hS ly_26 rfl) rfl ?_
          refine gk_W_s 1 (pc1 := 66) (l1 := [some (.ref 27), some (.int x1), some (.int x2), some (.int x3), some (.int x4)]) (st1 := [.int x4, .ref 44]) rfl ?_
          obtain ⟨hb5, h⟩ := h
          refine gk_W_h (i := .iaload) 67 rfl rfl (h_al (a := 43) (scr := none) hS ly_43 hb5) rfl ?_
          refine gk_W_b 2 (¬ ((w_a w 43).getD x4.toNatClampNeg 0) = x1) (t := 80) (e := 71) (l1 := [some (.ref 27), some (.int x1), some (.int x2), some (.int x3), some (.int x4)]) (st1 := []) rfl (fun hp6 => ?_) (fun hp6 => ?_)
          · have h := h.1 hp6
            refine gk_W_s 2 (pc1 := 5) (l1 := [some (.ref 27), some (.int x1), some (.int x2), some (.int x3), some (.int (x4 + 1))]) (st1 := []) rfl ?_
            exact h
          · have h := h.2 (Decidable.not_not.mp hp6)
            refine gk_W_s 10 (pc1 := 5) (l1 := [some (.ref 27), some (.int x1), some (.int x2), some (.int (x3 ||| (1 <<< ((x4 + 1) &&& 31)))), some (.int (x4 + 1))]) (st1 := []) rfl ?_
            exact h
      · have h := h.2 hp3
        refine gk_W_s 2 (pc1 := 35) (l1 := [some (.ref 27), some (.int x1), some (.int x2), some (.int x3), some (.int x4)]) (st1 := [.ref 27, .int x3]) rfl ?_
        refine gk_W_h (i := .getfield 67) 38 rfl rfl (h_gr (a := 26) (k := 26) (m := 45) hS ly_26 rfl) rfl ?_
        refine gk_W_s 5 (pc1 := 45) (l1 := [some (.ref 27), some (.int x1), some (.int x2), some (.int x3), some (.int x4)]) (st1 := [.int ((11 * x1) + x4), .ref 45, .int x3]) rfl ?_
        obtain ⟨hb7, h⟩ := h
        refine gk_W_h (i := .iaload) 46 rfl rfl (h_al (a := 44) (scr := none) hS ly_44 hb7) rfl ?_
        refine gk_W_s 5 (pc1 := 5) (l1 := [some (.ref 27), some (.int x1), some (.int x2), some (.int (x3 ||| ((w_a w 44).getD ((11 * x1) + x4).toNatClampNeg 0))), some (.int (x4 + 1))]) (st1 := []) rfl ?_
        exact h
    · have h := h.2 (Decidable.not_not.mp hp2)
      refine gk_W_s 3 (pc1 := 5) (l1 := [some (.ref 27), some (.int x1), some (.int x2), some (.int x3), some (.int (x4 + 1))]) (st1 := []) rfl ?_
      exact h
set_option maxRecDepth 8000 in
/-- GrammarDeskModel.waysOfRule(III)I, at 0 -/
theorem sg_209_0 {d : Nat} {rr : List gk_S} {w w' : gk_Wd} {r : gk_Res} (hS : gk_Sh rr w) (x1 : Int32) (x2 : Int32) (x3 : Int32)
    (h : (gk_out x1 64 = false ∧ ((¬ ((w_a w 29).getD x1.toNatClampNeg 0) = 1 → gk_W none (d + 2) 209 26 [some (.ref 27), some (.int x1), some (.int x2), some (.int x3), some (.int 0), none, none, none, none, none] [] w r w') ∧ (((w_a w 29).getD x1.toNatClampNeg 0) = 1 → ((gk_out ((10 * x1) + 0) 640 = false) ∧ ((((f_163 (f_151 w x1 0)) = 0) → ¬ (¬ x3 = (x2 + 1)) → gk_out x2 10 = false) ∧ (¬ ((f_163 (f_151 w x1 0)) = 0) → gk_out (((121 * (f_151 w x1 0)) + (11 * x2)) + x3) 1936 = false) ∧ (r = .inl (some (.int (f_210 w (f_151 w x1 0) x2 x3))) ∧ w' = w))))))) :
    gk_W none (d + 2) 209 0 [some (.ref 27), some (.int x1), some (.int x2), some (.int x3), none, none, none, none, none, none] [] w r w' := by
  refine gk_W_s 1 (pc1 := 1) (l1 := [some (.ref 27), some (.int x1), some (.int x2), some (.int x3), none, none, none, none, none, none]) (st1 := [.ref 27]) rfl ?_
  refine gk_W_h (i := .getfield 21) 4 rfl rfl (h_gr (a := 26) (k := 6) (m := 30) hS ly_26 rfl) rfl ?_
  refine gk_W_s 1 (pc1 := 5) (l1 := [some (.ref 27), some (.int x1), some (.int x2), some (.int x3), none, none, none, none, none, none]) (st1 := [.int x1, .ref 30]) rfl ?_
  obtain ⟨hb1, h⟩ := h
  refine gk_W_h (i := .iaload) 6 rfl rfl (h_al (a := 29) (scr := none) hS ly_29 hb1) rfl ?_
  refine gk_W_b 2 (¬ ((w_a w 29).getD x1.toNatClampNeg 0) = 1) (t := 23) (e := 10) (l1 := [some (.ref 27), some (.int x1), some (.int x2), some (.int x3), none, none, none, none, none, none]) (st1 := []) rfl (fun hp2 => ?_) (fun hp2 => ?_)
  · have h := h.1 hp2
    refine gk_W_s 2 (pc1 := 26) (l1 := [some (.ref 27), some (.int x1), some (.int x2), some (.int x3), some (.int 0), none, none, none, none, none]) (st1 := []) rfl ?_
    exact h
  · have h := h.2 (Decidable.not_not.mp hp2)
    refine gk_W_s 4 (pc1 := 14) (l1 := [some (.ref 27), some (.int x1), some (.int x2), some (.int x3), none, none, none, none, none, none]) (st1 := [.int 0, .int x1, .ref 27, .ref 27]) rfl ?_
    obtain ⟨hb3, h⟩ := h
    refine gk_W_c (i := .invokevirtual 103) [.int (f_151 w x1 0), .ref 27] 17 rfl rfl (c_v (a := 26) hS ly_26 rfl rfl (Nat.le_of_ble_eq_true rfl)) (f_151_E hS x1 0 hb3) rfl rfl ?_
    refine gk_W_s 2 (pc1 := 19) (l1 := [some (.ref 27), some (.int x1), some (.int x2), some (.int x3), none, none, none, none, none, none]) (st1 := [.int x3, .int x2, .int (f_151 w x1 0), .ref 27]) rfl ?_
    obtain ⟨hb4, hb5, h⟩ := h
    refine gk_W_c (i := .invokevirtual 282) [.int (f_210 w (f_151 w x1 0) x2 x3)] 22 rfl rfl (c_v (a := 26) hS ly_26 rfl rfl (Nat.le_of_ble_eq_true rfl)) (f_210_E hS (f_151 w x1 0) x2 x3 hb4 hb5) rfl rfl ?_
    obtain ⟨rfl, rfl⟩ := h
    exact gk_W_r (i := .ireturn) rfl rfl rfl
set_option maxRecDepth 8000 in
/-- GrammarDeskModel.waysOfRule(III)I, at 26 -/
theorem sg_209_26 {d : Nat} {rr : List gk_S} {w w' : gk_Wd} {r : gk_Res} (hS : gk_Sh rr w) (x1 : Int32) (x2 : Int32) (x3 : Int32) (x4 : Int32)
    (h : ((10 < x4 → gk_W none (d + 2) 209 60 [some (.ref 27), some (.int x1), some (.int x2), some (.int x3), some (.int 0), none, none, none, none, none] [] w r w') ∧ (¬ (10 < x4) → ((¬ x4 = x2 → (gk_out x4 11 = false ∧ gk_W none (d + 2) 209 26 [some (.ref 27), some (.int x1), some (.int x2), some (.int x3), some (.int (x4 + 1)), none, none, none, none, none] [] (w_sa w 52 ((w_a w 52).set x4.toNatClampNeg 0)) r w')) ∧ (x4 = x2 → (gk_out x4 11 = false ∧ gk_W none (d + 2) 209 26 [some (.ref 27), some (.int x1), some (.int x2), some (.int x3), some (.int (x4 + 1)), none, none, none, none, none] [] (w_sa w 52 ((w_a w 52).set x4.toNatClampNeg 1)) r w')))))) :
    gk_W none (d + 2) 209 26 [some (.ref 27), some (.int x1), some (.int x2), some (.int x3), some (.int x4), none, none, none, none, none] [] w r w' := by
  refine gk_W_b 3 (10 < x4) (t := 57) (e := 33) (l1 := [some (.ref 27), some (.int x1), some (.int x2), some (.int x3), some (.int x4), none, none, none, none, none]) (st1 := []) rfl (fun hp1 => ?_) (fun hp1 => ?_)
  · have h := h.1 hp1
    refine gk_W_s 2 (pc1 := 60) (l1 := [some (.ref 27), some (.int x1), some (.int x2), some (.int x3), some (.int 0), none, none, none, none, none]) (st1 := []) rfl ?_
    exact h
  · have h := h.2 hp1
    refine gk_W_s 1 (pc1 := 34) (l1 := [some (.ref 27), some (.int x1), some (.int x2), some (.int x3), some (.int x4), none, none, none, none, none]) (st1 := [.ref 27]) rfl ?_
    refine gk_W_h (i := .getfield 91) 37 rfl rfl (h_gr (a := 26) (k := 37) (m := 53) hS ly_26 rfl) rfl ?_
    refine gk_W_b 4 (¬ x4 = x2) (t := 49) (e := 45) (l1 := [some (.ref 27), some (.int x1), some (.int x2), some (.int x3), some (.int x4), none, none, none, none, none]) (st1 := [.int x4, .ref 53]) rfl (fun hp2 => ?_) (fun hp2 => ?_)
    · have h := h.1 hp2
      refine gk_W_s 1 (pc1 := 50) (l1 := [some (.ref 27), some (.int x1), some (.int x2), some (.int x3), some (.int x4), none, none, none, none, none]) (st1 := [.int 0, .int x4, .ref 53]) rfl ?_
      obtain ⟨hb3, h⟩ := h
      refine gk_W_h (i := .iastore) 51 rfl rfl (h_as (a := 52) (t := 0) hS ly_52 hb3 rfl) rfl ?_
      refine gk_W_s 2 (pc1 := 26) (l1 := [some (.ref 27), some (.int x1), some (.int x2), some (.int x3), some (.int (x4 + 1)), none, none, none, none, none]) (st1 := []) rfl ?_
      exact h
    · have h := h.2 (Decidable.not_not.mp hp2)
      refine gk_W_s 2 (pc1 := 50) (l1 := [some (.ref 27), some (.int x1), some (.int x2), some (.int x3), some (.int x4), none, none, none, none, none]) (st1 := [.int 1, .int x4, .ref 53]) rfl ?_
      obtain ⟨hb4, h⟩ := h
      refine gk_W_h (i := .iastore) 51 rfl rfl (h_as (a := 52) (t := 0) hS ly_52 hb4 rfl) rfl ?_
      refine gk_W_s 2 (pc1 := 26) (l1 := [some (.ref 27), some (.int x1), some (.int x2), some (.int x3), some (.int (x4 + 1)), none, none, none, none, none]) (st1 := []) rfl ?_
      exact h
set_option maxRecDepth 8000 in
/-- GrammarDeskModel.waysOfRule(III)I, at 60 -/
theorem sg_209_60 {d : Nat} {rr : List gk_S} {w w' : gk_Wd} {r : gk_Res} (hS : gk_Sh rr w) (x1 : Int32) (x2 : Int32) (x3 : Int32) (x4 : Int32)
    (h : (gk_out x1 64 = false ∧ ((((w_a w 29).getD x1.toNatClampNeg 0) ≤ x4 → (gk_out x3 11 = false ∧ (r = .inl (some (.int ((w_a w 52).getD x3.toNatClampNeg 0))) ∧ w' = w))) ∧ (¬ (((w_a w 29).getD x1.toNatClampNeg 0) ≤ x4) → gk_W none (d + 2) 209 74 [some (.ref 27), some (.int x1), some (.int x2), some (.int x3), some (.int x4), some (.int 0), none, none, none, none] [] w r w')))) :
    gk_W none (d + 2) 209 60 [some (.ref 27), some (.int x1), some (.int x2), some (.int x3), some (.int x4), none, none, none, none, none] [] w r w' := by
  refine gk_W_s 2 (pc1 := 63) (l1 := [some (.ref 27), some (.int x1), some (.int x2), some (.int x3), some (.int x4), none, none, none, none, none]) (st1 := [.ref 27, .int x4]) rfl ?_
  refine gk_W_h (i := .getfield 21) 66 rfl rfl (h_gr (a := 26) (k := 6) (m := 30) hS ly_26 rfl) rfl ?_
  refine gk_W_s 1 (pc1 := 67) (l1 := [some (.ref 27), some (.int x1), some (.int x2), some (.int x3), some (.int x4), none, none, none, none, none]) (st1 := [.int x1, .ref 30, .int x4]) rfl ?_
  obtain ⟨hb1, h⟩ := h
  refine gk_W_h (i := .iaload) 68 rfl rfl (h_al (a := 29) (scr := none) hS ly_29 hb1) rfl ?_
  refine gk_W_b 1 (((w_a w 29).getD x1.toNatClampNeg 0) ≤ x4) (t := 224) (e := 71) (l1 := [some (.ref 27), some (.int x1), some (.int x2), some (.int x3), some (.int x4), none, none, none, none, none]) (st1 := []) rfl (fun hp2 => ?_) (fun hp2 => ?_)
  · have h := h.1 hp2
    refine gk_W_s 1 (pc1 := 225) (l1 := [some (.ref 27), some (.int x1), some (.int x2), some (.int x3), some (.int x4), none, none, none, none, none]) (st1 := [.ref 27]) rfl ?_
    refine gk_W_h (i := .getfield 91) 228 rfl rfl (h_gr (a := 26) (k := 37) (m := 53) hS ly_26 rfl) rfl ?_
    refine gk_W_s 1 (pc1 := 229) (l1 := [some (.ref 27), some (.int x1), some (.int x2), some (.int x3), some (.int x4), none, none, none, none, none]) (st1 := [.int x3, .ref 53]) rfl ?_
    obtain ⟨hb3, h⟩ := h
    refine gk_W_h (i := .iaload) 230 rfl rfl (h_al (a := 52) (scr := none) hS ly_52 hb3) rfl ?_
    obtain ⟨rfl, rfl⟩ := h
    exact gk_W_r (i := .ireturn) rfl rfl rfl
  · have h := h.2 hp2
    refine gk_W_s 2 (pc1 := 74) (l1 := [some (.ref 27), some (.int x1), some (.int x2), some (.int x3), some (.int x4), some (.int 0), none, none, none, none]) (st1 := []) rfl ?_
    exact h
set_option maxRecDepth 8000 in
/-- GrammarDeskModel.waysOfRule(III)I, at 74 -/
theorem sg_209_74 {d : Nat} {rr : List gk_S} {w w' : gk_Wd} {r : gk_Res} (hS : gk_Sh rr w) (x1 : Int32) (x2 : Int32) (x3 : Int32) (x4 : Int32) (x5 : Int32)
    (h : ((10 < x5 → gk_W none (d + 2) 209 191 [some (.ref 27), some (.int x1), some (.int x2), some (.int x3), some (.int x4), some (.int 0), none, none, none, none] [] w r w') ∧ (¬ (10 < x5) → gk_W none (d + 2) 209 87 [some (.ref 27), some (.int x1), some (.int x2), some (.int x3), some (.int x4), some (.int x5), some (.long 0), none, some (.int x2), none] [] w r w'))) :
    gk_W none (d + 2) 209 74 [some (.ref 27), some (.int x1), some (.int x2), some (.int x3), some (.int x4), some (.int x5), none, none, none, none] [] w r w' := by
  refine gk_W_b 3 (10 < x5) (t := 188) (e := 81) (l1 := [some (.ref 27), some (.int x1), some (.int x2), some (.int x3), some (.int x4), some (.int x5), none, none, none, none]) (st1 := []) rfl (fun hp1 => ?_) (fun hp1 => ?_)
  · have h := h.1 hp1
    refine gk_W_s 2 (pc1 := 191) (l1 := [some (.ref 27), some (.int x1), some (.int x2), some (.int x3), some (.int x4), some (.int 0), none, none, none, none]) (st1 := []) rfl ?_
    exact h
  · have h := h.2 hp1
    refine gk_W_s 4 (pc1 := 87) (l1 := [some (.ref 27), some (.int x1), some (.int x2), some (.int x3), some (.int x4), some (.int x5), some (.long 0), none, some (.int x2), none]) (st1 := []) rfl ?_
    exact h
set_option maxRecDepth 8000 in
/-- GrammarDeskModel.waysOfRule(III)I, at 87 -/
theorem sg_209_87 {d : Nat} {rr : List gk_S} {w w' : gk_Wd} {r : gk_Res} (hS : gk_Sh rr w) (x1 : Int32) (x2 : Int32) (x3 : Int32) (x4 : Int32) (x5 : Int32) (y6 : Int64) (x8 : Int32)
    (h : ((x5 ≤ x8 → (gk_out x5 11 = false ∧ gk_W none (d + 2) 209 74 [some (.ref 27), some (.int x1), some (.int x2), some (.int x3), some (.int x4), some (.int (x5 + 1)), none, none, none, none] [] (w_sa w 53 ((w_a w 53).set x5.toNatClampNeg (f_211 y6))) r w')) ∧ (¬ (x5 ≤ x8) → ((x3 < x5 → (gk_out x5 11 = false ∧ gk_W none (d + 2) 209 74 [some (.ref 27), some (.int x1), some (.int x2), some (.int x3), some (.int x4), some (.int (x5 + 1)), none, none, none, none] [] (w_sa w 53 ((w_a w 53).set x5.toNatClampNeg (f_211 y6))) r w')) ∧ (¬ (x3 < x5) → ((¬ x8 = x2 → (gk_out x8 11 = false ∧ ((((w_a w 52).getD x8.toNatClampNeg 0) ≤ 0 → gk_W none (d + 2) 209 87 [some (.ref 27), some (.int x1), some (.int x2), some (.int x3), some (.int x4), some (.int x5), some (.long y6), none, some (.int (x8 + 1)), none] [] w r w') ∧ (¬ (((w_a w 52).getD x8.toNatClampNeg 0) ≤ 0) → (gk_out x8 11 = false ∧ ((gk_out ((10 * x1) + x4) 640 = false) ∧ ((((f_163 (f_151 w x1 x4)) = 0) → ¬ (¬ x5 = (x8 + 1)) → gk_out x8 10 = false) ∧ (¬ ((f_163 (f_151 w x1 x4)) = 0) → gk_out (((121 * (f_151 w x1 x4)) + (11 * x8)) + x5) 1936 = false) ∧ gk_W none (d + 2) 209 87 [some (.ref 27), some (.int x1), some (.int x2), some (.int x3), some (.int x4), some (.int x5), some (.long (y6 + ((((w_a w 52).getD x8.toNatClampNeg 0).toInt64) * ((f_210 w (f_151 w x1 x4) x8 x5).toInt64)))), none, some (.int (x8 + 1)), none] [] w r w'))))))) ∧ (x8 = x2 → ((¬ x5 = x3 → (gk_out x8 11 = false ∧ ((((w_a w 52).getD x8.toNatClampNeg 0) ≤ 0 → gk_W none (d + 2) 209 87 [some (.ref 27), some (.int x1), some (.int x2), some (.int x3), some (.int x4), some (.int x5), some (.long y6), none, some (.int (x8 + 1)), none] [] w r w') ∧ (¬ (((w_a w 52).getD x8.toNatClampNeg 0) ≤ 0) → (gk_out x8 11 = false ∧ ((gk_out ((10 * x1) + x4) 640 = false) ∧ ((((f_163 (f_151 w x1 x4)) = 0) → ¬ (¬ x5 = (x8 + 1)) → gk_out x8 10 = false) ∧ (¬ ((f_163 (f_151 w x1 x4)) = 0) → gk_out (((121 * (f_151 w x1 x4)) + (11 * x8)) + x5) 1936 = false) ∧ gk_W none (d + 2) 209 87 [some (.ref 27), some (.int x1), some (.int x2), some (.int x3), some (.int x4), some (.int x5), some (.long (y6 + ((((w_a w 52).getD x8.toNatClampNeg 0).toInt64) * ((f_210 w (f_151 w x1 x4) x8 x5).toInt64)))), none, some (.int (x8 + 1)), none] [] w r w'))))))) ∧ (x5 = x3 → (gk_out x8 11 = false ∧ ((((w_a w 52).getD x8.toNatClampNeg 0) ≤ 0 → gk_W none (d + 2) 209 87 [some (.ref 27), some (.int x1), some (.int x2), some (.int x3), some (.int x4), some (.int x5), some (.long y6), none, some (.int (x8 + 1)), none] [] w r w') ∧ (¬ (((w_a w 52).getD x8.toNatClampNeg 0) ≤ 0) → gk_W none (d + 2) 209 87 [some (.ref 27), some (.int x1), some (.int x2), some (.int x3), some (.int x4), some (.int x5), some (.long y6), none, some (.int (x8 + 1)), none] [] w r w')))))))))))) :
    gk_W none (d + 2) 209 87 [some (.ref 27), some (.int x1), some (.int x2), some (.int x3), some (.int x4), some (.int x5), some (.long y6), none, some (.int x8), none] [] w r w' := by
  refine gk_W_b 3 (x5 ≤ x8) (t := 170) (e := 94) (l1 := [some (.ref 27), some (.int x1), some (.int x2), some (.int x3), some (.int x4), some (.int x5), some (.long y6), none, some (.int x8), none]) (st1 := []) rfl (fun hp1 => ?_) (fun hp1 => ?_)
  · have h := h.1 hp1
    refine gk_W_s 1 (pc1 := 171) (l1 := [some (.ref 27), some (.int x1), some (.int x2), some (.int x3), some (.int x4), some (.int x5), some (.long y6), none, some (.int x8), none]) (st1 := [.ref 27]) rfl ?_
    refine gk_W_h (i := .getfield 94) 174 rfl rfl (h_gr (a := 26) (k := 38) (m := 54) hS ly_26 rfl) rfl ?_
    refine gk_W_s 2 (pc1 := 178) (l1 := [some (.ref 27), some (.int x1), some (.int x2), some (.int x3), some (.int x4), some (.int x5), some (.long y6), none, some (.int x8), none]) (st1 := [.long y6, .int x5, .ref 54]) rfl ?_
    refine gk_W_c (i := .invokestatic 286) [.int (f_211 y6), .int x5, .ref 54] 181 rfl rfl rfl (f_211_E y6) rfl rfl ?_
    obtain ⟨hb2, h⟩ := h
    refine gk_W_h (i := .iastore) 182 rfl rfl (h_as (a := 53) (t := 0) hS ly_53 hb2 rfl) rfl ?_
    refine gk_W_s 2 (pc1 := 74) (l1 := [some (.ref 27), some (.int x1), some (.int x2), some (.int x3), some (.int x4), some (.int (x5 + 1)), some (.long y6), none, some (.int x8), none]) (st1 := []) rfl ?_
    exact gk_W_le (gk_le_s (gk_le_s (gk_le_s (gk_le_s (gk_le_s (gk_le_s (gk_le_n (gk_le_s (gk_le_n (gk_le_s (gk_le_0))))))))))) h
  · have h := h.2 hp1
    refine gk_W_b 3 (x3 < x5) (t := 170) (e := 100) (l1 := [some (.ref 27), some (.int x1), some (.int x2), some (.int x3), some (.int x4), some (.int x5), some (.long y6), none, some (.int x8), none]) (st1 := []) rfl (fun hp3 => ?_) (fun hp3 => ?_)
    · have h := h.1 hp3
      refine gk_W_s 1 (pc1 := 171) (l1 := [some (.ref 27), some (.int x1), some (.int x2), some (.int x3), some (.int x4), some (.int x5), some (.long y6), none, some (.int x8), none]) (st1 := [.ref 27]) rfl ?_
      refine gk_W_h (i := .getfield 94) 174 rfl rfl (h_gr (a := 26) (k := 38) (m := 54) hS ly_26 rfl) rfl ?_
      refine gk_W_s 2 (pc1 := 178) (l1 := [some (.ref 27), some (.int x1), some (.int x2), some (.int x3), some (.int x4), some (.int x5), some (.long y6), none, some (.int x8), none]) (st1 := [.long y6, .int x5, .ref 54]) rfl ?_
      refine gk_W_c (i := .invokestatic 286) [.int (f_211 y6), .int x5, .ref 54] 181 rfl rfl rfl (f_211_E y6) rfl rfl ?_
      obtain ⟨hb4, h⟩ := h
      refine gk_W_h (i := .iastore) 182 rfl rfl (h_as (a := 53) (t := 0) hS ly_53 hb4 rfl) rfl ?_
      refine gk_W_s 2 (pc1 := 74) (l1 := [some (.ref 27), some (.int x1), some (.int x2), some (.int x3), some (.int x4), some (.int (x5 + 1)), some (.long y6), none, some (.int x8), none]) (st1 := []) rfl ?_
      exact gk_W_le (gk_le_s (gk_le_s (gk_le_s (gk_le_s (gk_le_s (gk_le_s (gk_le_n (gk_le_s (gk_le_n (gk_le_s (gk_le_0))))))))))) h
    · have h := h.2 hp3
      refine gk_W_b 3 (¬ x8 = x2) (t := 116) (e := 106) (l1 := [some (.ref 27), some (.int x1), some (.int x2), some (.int x3), some (.int x4), some (.int x5), some (.long y6), none, some (.int x8), none]) (st1 := []) rfl (fun hp5 => ?_) (fun hp5 => ?_)
      · have h := h.1 hp5
        refine gk_W_s 3 (pc1 := 120) (l1 := [some (.ref 27), some (.int x1), some (.int x2), some (.int x3), some (.int x4), some (.int x5), some (.long y6), none, some (.int x8), some (.int 0)]) (st1 := [.ref 27]) rfl ?_
        refine gk_W_h (i := .getfield 91) 123 rfl rfl (h_gr (a := 26) (k := 37) (m := 53) hS ly_26 rfl) rfl ?_
        refine gk_W_s 1 (pc1 := 125) (l1 := [some (.ref 27), some (.int x1), some (.int x2), some (.int x3), some (.int x4), some (.int x5), some (.long y6), none, some (.int x8), some (.int 0)]) (st1 := [.int x8, .ref 53]) rfl ?_
        obtain ⟨hb6, h⟩ := h
        refine gk_W_h (i := .iaload) 126 rfl rfl (h_al (a := 52) (scr := none) hS ly_52 hb6) rfl ?_
        refine gk_W_b 1 (((w_a w 52).getD x8.toNatClampNeg 0) ≤ 0) (t := 164) (e := 129) (l1 := [some (.ref 27), some (.int x1), some (.int x2), some (.int x3), some (.int x4), some (.int x5), some (.long y6), none, some (.int x8), some (.int 0)]) (st1 := []) rfl (fun hp7 => ?_) (fun hp7 => ?_)
        · have h := h.1 hp7
          refine gk_W_s 2 (pc1 := 87) (l1 := [some (.ref 27), some (.int x1), some (.int x2), some (.int x3), some (.int x4), some (.int x5), some (.long y6), none, some (.int (x8 + 1)), some (.int 0)]) (st1 := []) rfl ?_
          exact gk_W_le (gk_le_s (gk_le_s (gk_le_s (gk_le_s (gk_le_s (gk_le_s (gk_le_s (gk_le_s (gk_le_s (gk_le_n (gk_le_0))))))))))) h
        · have h := h.2 hp7
          refine gk_W_s 4 (pc1 := 137) (l1 := [some (.ref 27), some (.int x1), some (.int x2), some (.int x3), some (.int x4), some (.int x5), some (.long y6), none, some (.int x8), some (.int 0)]) (st1 := [.ref 27, .long y6]) rfl ?_
          refine gk_W_h (i := .getfield 91) 140 rfl rfl (h_gr (a := 26) (k := 37) (m := 53) hS ly_26 rfl) rfl ?_
          refine gk_W_s 1 (pc1 := 142) (l1 := [some (.ref 27), some (.int x1), some (.int x2), some (.int x3), some (.int x4), some (.int x5), some (.long y6), none, some (.int x8), some (.int 0)]) (st1 := [.int x8, .ref 53, .long y6]) rfl ?_
          obtain ⟨hb8, h⟩ := h
          refine gk_W_h (i := .iaload) 143 rfl rfl (h_al (a := 52) (scr := none) hS ly_52 hb8) rfl ?_
          refine gk_W_s 5 (pc1 := 149) (l1 := [some (.ref 27), some (.int x1), some (.int x2), some (.int x3), some (.int x4), some (.int x5), some (.long y6), none, some (.int x8), some (.int 0)]) (st1 := [.int x4, .int x1, .ref 27, .ref 27, .long (((w_a w 52).getD x8.toNatClampNeg 0).toInt64), .long y6]) rfl ?_
          obtain ⟨hb9, h⟩ := h
          refine gk_W_c (i := .invokevirtual 103) [.int (f_151 w x1 x4), .ref 27, .long (((w_a w 52).getD x8.toNatClampNeg 0).toInt64), .long y6] 152 rfl rfl (c_v (a := 26) hS ly_26 rfl rfl (Nat.le_of_ble_eq_true rfl)) (f_151_E hS x1 x4 hb9) rfl rfl ?_
          refine gk_W_s 2 (pc1 := 156) (l1 := [some (.ref 27), some (.int x1), some (.int x2), some (.int x3), some (.int x4), some (.int x5), some (.long y6), none, some (.int x8), some (.int 0)]) (st1 := [.int x5, .int x8, .int (f_151 w x1 x4), .ref 27, .long (((w_a w 52).getD x8.toNatClampNeg 0).toInt64), .long y6]) rfl ?_
          obtain ⟨hb10, hb11, h⟩ := h
          refine gk_W_c (i := .invokevirtual 282) [.int (f_210 w (f_151 w x1 x4) x8 x5), .long (((w_a w 52).getD x8.toNatClampNeg 0).toInt64), .long y6] 159 rfl rfl (c_v (a := 26) hS ly_26 rfl rfl (Nat.le_of_ble_eq_true rfl)) (f_210_E hS (f_151 w x1 x4) x8 x5 hb10 hb11) rfl rfl ?_
          refine gk_W_s 6 (pc1 := 87) (l1 := [some (.ref 27), some (.int x1), some (.int x2), some (.int x3), some (.int x4), some (.int x5), some (.long (y6 + ((((w_a w 52).getD x8.toNatClampNeg 0).toInt64) * ((f_210 w (f_151 w x1 x4) x8 x5).toInt64)))), none, some (.int (x8 + 1)), some (.int 0)]) (st1 := []) rfl ?_
          exact gk_W_le (gk_le_s (gk_le_s (gk_le_s (gk_le_s (gk_le_s (gk_le_s (gk_le_s (gk_le_s (gk_le_s (gk_le_n (gk_le_0))))))))))) h
      · have h := h.2 (Decidable.not_not.mp hp5)
        refine gk_W_b 3 (¬ x5 = x3) (t := 116) (e := 112) (l1 := [some (.ref 27), some (.int x1), some (.int x2), some (.int x3), some (.int x4), some (.int x5), some (.long y6), none, some (.int x8), none]) (st1 := []) rfl (fun hp12 => ?_) (fun hp12 => ?_)
        · have h := h.1 hp12
          refine gk_W_s 3 (pc1 := 120) (l1 := [some (.ref 27), some (.int x1), some (.int x2), some (.int x3), some (.int x4), some (.int x5), some (.long y6), none, some (.int x8), some (.int 0)]) (st1 := [.ref 27]) rfl ?_
          refine gk_W_h (i := .getfield 91) 123 rfl rfl (h_gr (a := 26) (k := 37) (m := 53) hS ly_26 rfl) rfl ?_
          refine gk_W_s 1 (pc1 := 125) (l1 := [some (.ref 27), some (.int x1), some (.int x2), some (.int x3), some (.int x4), some (.int x5), some (.long y6), none, some (.int x8), some (.int 0)]) (st1 := [.int x8, .ref 53]) rfl ?_
          obtain ⟨hb13, h⟩ := h
          refine gk_W_h (i := .iaload) 126 rfl rfl (h_al (a := 52) (scr := none) hS ly_52 hb13) rfl ?_
          refine gk_W_b 1 (((w_a w 52).getD x8.toNatClampNeg 0) ≤ 0) (t := 164) (e := 129) (l1 := [some (.ref 27), some (.int x1), some (.int x2), some (.int x3), some (.int x4), some (.int x5), some (.long y6), none, some (.int x8), some (.int 0)]) (st1 := []) rfl (fun hp14 => ?_) (fun hp14 => ?_)
          · have h := h.1 hp14
            refine gk_W_s 2 (pc1 := 87) (l1 := [some (.ref 27), some (.int x1), some (.int x2), some (.int x3), some (.int x4), some (.int x5), some (.long y6), none, some (.int (x8 + 1)), some (.int 0)]) (st1 := []) rfl ?_
            exact gk_W_le (gk_le_s (gk_le_s (gk_le_s (gk_le_s (gk_le_s (gk_le_s (gk_le_s (gk_le_s (gk_le_s (gk_le_n (gk_le_0))))))))))) h
          · have h := h.2 hp14
            refine gk_W_s 4 (pc1 := 137) (l1 := [some (.ref 27), some (.int x1), some (.int x2), some (.int x3), some (.int x4), some (.int x5), some (.long y6), none, some (.int x8), some (.int 0)]) (st1 := [.ref 27, .long y6]) rfl ?_
            refine gk_W_h (i := .getfield 91) 140 rfl rfl (h_gr (a := 26) (k := 37) (m := 53) hS ly_26 rfl) rfl ?_
            refine gk_W_s 1 (pc1 := 142) (l1 := [some (.ref 27), some (.int x1), some (.int x2), some (.int x3), some (.int x4), some (.int x5), some (.long y6), none, some (.int x8), some (.int 0)]) (st1 := [.int x8, .ref 53, .long y6]) rfl ?_
            obtain ⟨hb15, h⟩ := h
            refine gk_W_h (i := .iaload) 143 rfl rfl (h_al (a := 52) (scr := none) hS ly_52 hb15) rfl ?_
            refine gk_W_s 5 (pc1 := 149) (l1 := [some (.ref 27), some (.int x1), some (.int x2), some (.int x3), some (.int x4), some (.int x5), some (.long y6), none, some (.int x8), some (.int 0)]) (st1 := [.int x4, .int x1, .ref 27, .ref 27, .long (((w_a w 52).getD x8.toNatClampNeg 0).toInt64), .long y6]) rfl ?_
            obtain ⟨hb16, h⟩ := h
            refine gk_W_c (i := .invokevirtual 103) [.int (f_151 w x1 x4), .ref 27, .long (((w_a w 52).getD x8.toNatClampNeg 0).toInt64), .long y6] 152 rfl rfl (c_v (a := 26) hS ly_26 rfl rfl (Nat.le_of_ble_eq_true rfl)) (f_151_E hS x1 x4 hb16) rfl rfl ?_
            refine gk_W_s 2 (pc1 := 156) (l1 := [some (.ref 27), some (.int x1), some (.int x2), some (.int x3), some (.int x4), some (.int x5), some (.long y6), none, some (.int x8), some (.int 0)]) (st1 := [.int x5, .int x8, .int (f_151 w x1 x4), .ref 27, .long (((w_a w 52).getD x8.toNatClampNeg 0).toInt64), .long y6]) rfl ?_
            obtain ⟨hb17, hb18, h⟩ := h
            refine gk_W_c (i := .invokevirtual 282) [.int (f_210 w (f_151 w x1 x4) x8 x5), .long (((w_a w 52).getD x8.toNatClampNeg 0).toInt64), .long y6] 159 rfl rfl (c_v (a := 26) hS ly_26 rfl rfl (Nat.le_of_ble_eq_true rfl)) (f_210_E hS (f_151 w x1 x4) x8 x5 hb17 hb18) rfl rfl ?_
            refine gk_W_s 6 (pc1 := 87) (l1 := [some (.ref 27), some (.int x1), some (.int x2), some (.int x3), some (.int x4), some (.int x5), some (.long (y6 + ((((w_a w 52).getD x8.toNatClampNeg 0).toInt64) * ((f_210 w (f_151 w x1 x4) x8 x5).toInt64)))), none, some (.int (x8 + 1)), some (.int 0)]) (st1 := []) rfl ?_
            exact gk_W_le (gk_le_s (gk_le_s (gk_le_s (gk_le_s (gk_le_s (gk_le_s (gk_le_s (gk_le_s (gk_le_s (gk_le_n (gk_le_0))))))))))) h
        · have h := h.2 (Decidable.not_not.mp hp12)
          refine gk_W_s 4 (pc1 := 120) (l1 := [some (.ref 27), some (.int x1), some (.int x2), some (.int x3), some (.int x4), some (.int x5), some (.long y6), none, some (.int x8), some (.int 1)]) (st1 := [.ref 27]) rfl ?_
          refine gk_W_h (i := .getfield 91) 123 rfl rfl (h_gr (a := 26) (k := 37) (m := 53) hS ly_26 rfl) rfl ?_
          refine gk_W_s 1 (pc1 := 125) (l1 := [some (.ref 27), some (.int x1), some (.int x2), some (.int x3), some (.int x4), some (.int x5), some (.long y6), none, some (.int x8), some (.int 1)]) (st1 := [.int x8, .ref 53]) rfl ?_
          obtain ⟨hb19, h⟩ := h
          refine gk_W_h (i := .iaload) 126 rfl rfl (h_al (a := 52) (scr := none) hS ly_52 hb19) rfl ?_
          refine gk_W_b 1 (((w_a w 52).getD x8.toNatClampNeg 0) ≤ 0) (t := 164) (e := 129) (l1 := [some (.ref 27), some (.int x1), some (.int x2), some (.int x3), some (.int x4), some (.int x5), some (.long y6), none, some (.int x8), some (.int 1)]) (st1 := []) rfl (fun hp20 => ?_) (fun hp20 => ?_)
          · have h := h.1 hp20
            refine gk_W_s 2 (pc1 := 87) (l1 := [some (.ref 27), some (.int x1), some (.int x2), some (.int x3), some (.int x4), some (.int x5), some (.long y6), none, some (.int (x8 + 1)), some (.int 1)]) (st1 := []) rfl ?_
            exact gk_W_le (gk_le_s (gk_le_s (gk_le_s (gk_le_s (gk_le_s (gk_le_s (gk_le_s (gk_le_s (gk_le_s (gk_le_n (gk_le_0))))))))))) h
          · have h := h.2 hp20
            refine gk_W_s 4 (pc1 := 87) (l1 := [some (.ref 27), some (.int x1), some (.int x2), some (.int x3), some (.int x4), some (.int x5), some (.long y6), none, some (.int (x8 + 1)), some (.int 1)]) (st1 := []) rfl ?_
            exact gk_W_le (gk_le_s (gk_le_s (gk_le_s (gk_le_s (gk_le_s (gk_le_s (gk_le_s (gk_le_s (gk_le_s (gk_le_n (gk_le_0))))))))))) h
set_option maxRecDepth 8000 in
/-- GrammarDeskModel.waysOfRule(III)I, at 191 -/
theorem sg_209_191 {d : Nat} {rr : List gk_S} {w w' : gk_Wd} {r : gk_Res} (hS : gk_Sh rr w) (x1 : Int32) (x2 : Int32) (x3 : Int32) (x4 : Int32) (x5 : Int32)
    (h : ((10 < x5 → gk_W none (d + 2) 209 60 [some (.ref 27), some (.int x1), some (.int x2), some (.int x3), some (.int (x4 + 1)), none, none, none, none, none] [] w r w') ∧ (¬ (10 < x5) → (gk_out x5 11 = false ∧ (gk_out x5 11 = false ∧ gk_W none (d + 2) 209 191 [some (.ref 27), some (.int x1), some (.int x2), some (.int x3), some (.int x4), some (.int (x5 + 1)), none, none, none, none] [] (w_sa w 52 ((w_a w 52).set x5.toNatClampNeg ((w_a w 53).getD x5.toNatClampNeg 0))) r w'))))) :
    gk_W none (d + 2) 209 191 [some (.ref 27), some (.int x1), some (.int x2), some (.int x3), some (.int x4), some (.int x5), none, none, none, none] [] w r w' := by
  refine gk_W_b 3 (10 < x5) (t := 218) (e := 198) (l1 := [some (.ref 27), some (.int x1), some (.int x2), some (.int x3), some (.int x4), some (.int x5), none, none, none, none]) (st1 := []) rfl (fun hp1 => ?_) (fun hp1 => ?_)
  · have h := h.1 hp1
    refine gk_W_s 2 (pc1 := 60) (l1 := [some (.ref 27), some (.int x1), some (.int x2), some (.int x3), some (.int (x4 + 1)), some (.int x5), none, none, none, none]) (st1 := []) rfl ?_
    exact gk_W_le (gk_le_s (gk_le_s (gk_le_s (gk_le_s (gk_le_s (gk_le_n (gk_le_s (gk_le_s (gk_le_s (gk_le_s (gk_le_0))))))))))) h
  · have h := h.2 hp1
    refine gk_W_s 1 (pc1 := 199) (l1 := [some (.ref 27), some (.int x1), some (.int x2), some (.int x3), some (.int x4), some (.int x5), none, none, none, none]) (st1 := [.ref 27]) rfl ?_
    refine gk_W_h (i := .getfield 91) 202 rfl rfl (h_gr (a := 26) (k := 37) (m := 53) hS ly_26 rfl) rfl ?_
    refine gk_W_s 2 (pc1 := 205) (l1 := [some (.ref 27), some (.int x1), some (.int x2), some (.int x3), some (.int x4), some (.int x5), none, none, none, none]) (st1 := [.ref 27, .int x5, .ref 53]) rfl ?_
    refine gk_W_h (i := .getfield 94) 208 rfl rfl (h_gr (a := 26) (k := 38) (m := 54) hS ly_26 rfl) rfl ?_
    refine gk_W_s 1 (pc1 := 210) (l1 := [some (.ref 27), some (.int x1), some (.int x2), some (.int x3), some (.int x4), some (.int x5), none, none, none, none]) (st1 := [.int x5, .ref 54, .int x5, .ref 53]) rfl ?_
    obtain ⟨hb2, h⟩ := h
    refine gk_W_h (i := .iaload) 211 rfl rfl (h_al (a := 53) (scr := none) hS ly_53 hb2) rfl ?_
    obtain ⟨hb3, h⟩ := h
    refine gk_W_h (i := .iastore) 212 rfl rfl (h_as (a := 52) (t := 0) hS ly_52 hb3 rfl) rfl ?_
    refine gk_W_s 2 (pc1 := 191) (l1 := [some (.ref 27), some (.int x1), some (.int x2), some (.int x3), some (.int x4), some (.int (x5 + 1)), none, none, none, none]) (st1 := []) rfl ?_
    exact h
set_option maxRecDepth 8000 in
/-- GrammarDeskModel.derive()I, at 0 -/
theorem sg_212_0 {d : Nat} {rr : List gk_S} {w w' : gk_Wd} {r : gk_Res} (hS : gk_Sh rr w)
    (h : (∃ (v2 : Int32), gk_E d 191 [.ref 27] (w_si w 26 0 0) (.inl (some (.int v2))) (w_si w 26 0 0) ∧ ((¬ v2 = 0 → (∃ (w5 : gk_Wd), gk_E d 206 [.ref 27] (w_si (w_si w 26 0 0) 26 28 0) (.inl none) w5 ∧ gk_Sh rr w5 ∧ ((¬ ((((w_a w5 44).getD 0 0) >>> ((w_i w5 26 24) &&& 31)) &&& 1) = 0 → gk_W none (d + 1) 212 63 [some (.ref 27), some (.int 0)] [] (w_sa (w_si w5 26 30 1) 47 ((w_a (w_si w5 26 30 1) 47).set 0 0)) r w') ∧ (((((w_a w5 44).getD 0 0) >>> ((w_i w5 26 24) &&& 31)) &&& 1) = 0 → (∃ (v9 : Int32), ∃ (w10 : gk_Wd), gk_E d 146 [.ref 27, .int 2] w5 (.inl (some (.int v9))) w10 ∧ gk_Sh rr w10 ∧ (r = .inl (some (.int v9)) ∧ w' = w10)))))) ∧ (v2 = 0 → (∃ (v13 : Int32), ∃ (w14 : gk_Wd), gk_E d 146 [.ref 27, .int 1] (w_si w 26 0 0) (.inl (some (.int v13))) w14 ∧ gk_Sh rr w14 ∧ (r = .inl (some (.int v13)) ∧ w' = w14)))))) :
    gk_W none (d + 1) 212 0 [some (.ref 27), none] [] w r w' := by
  refine gk_W_s 2 (pc1 := 2) (l1 := [some (.ref 27), none]) (st1 := [.int 0, .ref 27]) rfl ?_
  refine gk_W_h (i := .putfield 97) 5 rfl rfl (h_pi (a := 26) (k := 0) (x := 0) hS ly_26 rfl rfl) rfl ?_
  refine gk_W_s 1 (pc1 := 6) (l1 := [some (.ref 27), none]) (st1 := [.ref 27]) rfl ?_
  obtain ⟨v2, hE1, h⟩ := h
  refine gk_W_c (i := .invokevirtual 246) [.int v2] 9 rfl rfl (c_v (a := 26) (sh_si hS ly_26 (k := 0) rfl 0) ly_26 rfl rfl (Nat.le_of_ble_eq_true rfl)) hE1 rfl rfl ?_
  refine gk_W_b 1 (¬ v2 = 0) (t := 18) (e := 12) (l1 := [some (.ref 27), none]) (st1 := []) rfl (fun hp3 => ?_) (fun hp3 => ?_)
  · have h := h.1 hp3
    refine gk_W_s 2 (pc1 := 20) (l1 := [some (.ref 27), none]) (st1 := [.int 0, .ref 27]) rfl ?_
    refine gk_W_h (i := .putfield 138) 23 rfl rfl (h_pi (a := 26) (k := 28) (x := 0) (sh_si hS ly_26 (k := 0) rfl 0) ly_26 rfl rfl) rfl ?_
    refine gk_W_s 1 (pc1 := 24) (l1 := [some (.ref 27), none]) (st1 := [.ref 27]) rfl ?_
    obtain ⟨w5, hE4, hS6, h⟩ := h
    refine gk_W_c (i := .invokevirtual 276) [] 27 rfl rfl (c_v (a := 26) (sh_si (sh_si hS ly_26 (k := 0) rfl 0) ly_26 (k := 28) rfl 0) ly_26 rfl rfl (Nat.le_of_ble_eq_true rfl)) hE4 rfl rfl ?_
    refine gk_W_s 1 (pc1 := 28) (l1 := [some (.ref 27), none]) (st1 := [.ref 27]) rfl ?_
    refine gk_W_h (i := .getfield 67) 31 rfl rfl (h_gr (a := 26) (k := 26) (m := 45) hS6 ly_26 rfl) rfl ?_
    refine gk_W_s 1 (pc1 := 32) (l1 := [some (.ref 27), none]) (st1 := [.int 0, .ref 45]) rfl ?_
    refine gk_W_h (i := .iaload) 33 rfl rfl (h_al (a := 44) (scr := none) hS6 ly_44 rfl) rfl ?_
    refine gk_W_s 1 (pc1 := 34) (l1 := [some (.ref 27), none]) (st1 := [.ref 27, .int ((w_a w5 44).getD 0 0)]) rfl ?_
    refine gk_W_h (i := .getfield 270) 37 rfl rfl (h_gi (a := 26) (k := 24) hS6 ly_26 rfl) rfl ?_
    refine gk_W_b 4 (¬ ((((w_a w5 44).getD 0 0) >>> ((w_i w5 26 24) &&& 31)) &&& 1) = 0) (t := 49) (e := 43) (l1 := [some (.ref 27), none]) (st1 := []) rfl (fun hp7 => ?_) (fun hp7 => ?_)
    · have h := h.1 hp7
      refine gk_W_s 2 (pc1 := 51) (l1 := [some (.ref 27), none]) (st1 := [.int 1, .ref 27]) rfl ?_
      refine gk_W_h (i := .putfield 293) 54 rfl rfl (h_pi (a := 26) (k := 30) (x := 1) hS6 ly_26 rfl rfl) rfl ?_
      refine gk_W_s 1 (pc1 := 55) (l1 := [some (.ref 27), none]) (st1 := [.ref 27]) rfl ?_
      refine gk_W_h (i := .getfield 76) 58 rfl rfl (h_gr (a := 26) (k := 31) (m := 48) (sh_si hS6 ly_26 (k := 30) rfl 1) ly_26 rfl) rfl ?_
      refine gk_W_s 2 (pc1 := 60) (l1 := [some (.ref 27), none]) (st1 := [.int 0, .int 0, .ref 48]) rfl ?_
      refine gk_W_h (i := .iastore) 61 rfl rfl (h_as (a := 47) (t := 0) (sh_si hS6 ly_26 (k := 30) rfl 1) ly_47 rfl rfl) rfl ?_
      refine gk_W_s 2 (pc1 := 63) (l1 := [some (.ref 27), some (.int 0)]) (st1 := []) rfl ?_
      exact h
    · have h := h.2 (Decidable.not_not.mp hp7)
      refine gk_W_s 2 (pc1 := 45) (l1 := [some (.ref 27), none]) (st1 := [.int 2, .ref 27]) rfl ?_
      obtain ⟨v9, w10, hE8, hS11, h⟩ := h
      refine gk_W_c (i := .invokevirtual 130) [.int v9] 48 rfl rfl (c_v (a := 26) hS6 ly_26 rfl rfl (Nat.le_of_ble_eq_true rfl)) hE8 rfl rfl ?_
      obtain ⟨rfl, rfl⟩ := h
      exact gk_W_r (i := .ireturn) rfl rfl rfl
  · have h := h.2 (Decidable.not_not.mp hp3)
    refine gk_W_s 2 (pc1 := 14) (l1 := [some (.ref 27), none]) (st1 := [.int 1, .ref 27]) rfl ?_
    obtain ⟨v13, w14, hE12, hS15, h⟩ := h
    refine gk_W_c (i := .invokevirtual 130) [.int v13] 17 rfl rfl (c_v (a := 26) (sh_si hS ly_26 (k := 0) rfl 0) ly_26 rfl rfl (Nat.le_of_ble_eq_true rfl)) hE12 rfl rfl ?_
    obtain ⟨rfl, rfl⟩ := h
    exact gk_W_r (i := .ireturn) rfl rfl rfl
set_option maxRecDepth 8000 in
/-- GrammarDeskModel.derive()I, at 63 -/
theorem sg_212_63 {d : Nat} {rr : List gk_S} {w w' : gk_Wd} {r : gk_Res} (hS : gk_Sh rr w) (x1 : Int32)
    (h : (((w_i w 26 24) ≤ x1 → (r = .inl (some (.int (w_i w 26 28))) ∧ w' = w)) ∧ (¬ ((w_i w 26 24) ≤ x1) → (∃ (v3 : Int32), ∃ (w4 : gk_Wd), gk_E d 213 [.ref 27, .int x1] w (.inl (some (.int v3))) w4 ∧ gk_Sh rr w4 ∧ (gk_out x1 10 = false ∧ gk_W none (d + 1) 212 63 [some (.ref 27), some (.int (x1 + 1))] [] (w_si (w_sa w4 46 ((w_a w4 46).set x1.toNatClampNeg v3)) 26 28 ((w_i (w_sa w4 46 ((w_a w4 46).set x1.toNatClampNeg v3)) 26 28) + 1)) r w'))))) :
    gk_W none (d + 1) 212 63 [some (.ref 27), some (.int x1)] [] w r w' := by
  refine gk_W_s 2 (pc1 := 65) (l1 := [some (.ref 27), some (.int x1)]) (st1 := [.ref 27, .int x1]) rfl ?_
  refine gk_W_h (i := .getfield 270) 68 rfl rfl (h_gi (a := 26) (k := 24) hS ly_26 rfl) rfl ?_
  refine gk_W_b 1 ((w_i w 26 24) ≤ x1) (t := 98) (e := 71) (l1 := [some (.ref 27), some (.int x1)]) (st1 := []) rfl (fun hp1 => ?_) (fun hp1 => ?_)
  · have h := h.1 hp1
    refine gk_W_s 1 (pc1 := 99) (l1 := [some (.ref 27), some (.int x1)]) (st1 := [.ref 27]) rfl ?_
    refine gk_W_h (i := .getfield 138) 102 rfl rfl (h_gi (a := 26) (k := 28) hS ly_26 rfl) rfl ?_
    obtain ⟨rfl, rfl⟩ := h
    exact gk_W_r (i := .ireturn) rfl rfl rfl
  · have h := h.2 hp1
    refine gk_W_s 1 (pc1 := 72) (l1 := [some (.ref 27), some (.int x1)]) (st1 := [.ref 27]) rfl ?_
    refine gk_W_h (i := .getfield 73) 75 rfl rfl (h_gr (a := 26) (k := 29) (m := 47) hS ly_26 rfl) rfl ?_
    refine gk_W_s 3 (pc1 := 78) (l1 := [some (.ref 27), some (.int x1)]) (st1 := [.int x1, .ref 27, .int x1, .ref 47]) rfl ?_
    obtain ⟨v3, w4, hE2, hS5, h⟩ := h
    refine gk_W_c (i := .invokevirtual 299) [.int v3, .int x1, .ref 47] 81 rfl rfl (c_v (a := 26) hS ly_26 rfl rfl (Nat.le_of_ble_eq_true rfl)) hE2 rfl rfl ?_
    obtain ⟨hb6, h⟩ := h
    refine gk_W_h (i := .iastore) 82 rfl rfl (h_as (a := 46) (t := 0) hS5 ly_46 hb6 rfl) rfl ?_
    refine gk_W_s 2 (pc1 := 84) (l1 := [some (.ref 27), some (.int x1)]) (st1 := [.ref 27, .ref 27]) rfl ?_
    refine gk_W_h (i := .getfield 138) 87 rfl rfl (h_gi (a := 26) (k := 28) (sh_as hS5 ly_46 (x1.toNatClampNeg) v3) ly_26 rfl) rfl ?_
    refine gk_W_s 2 (pc1 := 89) (l1 := [some (.ref 27), some (.int x1)]) (st1 := [.int ((w_i (w_sa w4 46 ((w_a w4 46).set x1.toNatClampNeg v3)) 26 28) + 1), .ref 27]) rfl ?_
    refine gk_W_h (i := .putfield 138) 92 rfl rfl (h_pi (a := 26) (k := 28) (x := (w_i (w_sa w4 46 ((w_a w4 46).set x1.toNatClampNeg v3)) 26 28) + 1) (sh_as hS5 ly_46 (x1.toNatClampNeg) v3) ly_26 rfl rfl) rfl ?_
    refine gk_W_s 2 (pc1 := 63) (l1 := [some (.ref 27), some (.int (x1 + 1))]) (st1 := []) rfl ?_
    exact h
set_option maxRecDepth 8000 in
/-- GrammarDeskModel.chooseRule(I)I, at 0 -/
theorem sg_213_0 {d : Nat} {rr : List gk_S} {w w' : gk_Wd} {r : gk_Res} (hS : gk_Sh rr w) (x1 : Int32)
    (h : (gk_out (w_i (w_si w 26 30 ((w_i w 26 30) - 1)) 26 30) 40 = false ∧ gk_W none (d + 1) 213 28 [some (.ref 27), some (.int x1), some (.int ((w_a (w_si w 26 30 ((w_i w 26 30) - 1)) 47).getD (w_i (w_si w 26 30 ((w_i w 26 30) - 1)) 26 30).toNatClampNeg 0)), some (.int (w_i (w_si w 26 30 ((w_i w 26 30) - 1)) 26 30)), some (.int 0), none] [] (w_si w 26 30 ((w_i w 26 30) - 1)) r w')) :
    gk_W none (d + 1) 213 0 [some (.ref 27), some (.int x1), none, none, none, none] [] w r w' := by
  refine gk_W_s 2 (pc1 := 2) (l1 := [some (.ref 27), some (.int x1), none, none, none, none]) (st1 := [.ref 27, .ref 27]) rfl ?_
  refine gk_W_h (i := .getfield 293) 5 rfl rfl (h_gi (a := 26) (k := 30) hS ly_26 rfl) rfl ?_
  refine gk_W_s 2 (pc1 := 7) (l1 := [some (.ref 27), some (.int x1), none, none, none, none]) (st1 := [.int ((w_i w 26 30) - 1), .ref 27]) rfl ?_
  refine gk_W_h (i := .putfield 293) 10 rfl rfl (h_pi (a := 26) (k := 30) (x := (w_i w 26 30) - 1) hS ly_26 rfl rfl) rfl ?_
  refine gk_W_s 1 (pc1 := 11) (l1 := [some (.ref 27), some (.int x1), none, none, none, none]) (st1 := [.ref 27]) rfl ?_
  refine gk_W_h (i := .getfield 76) 14 rfl rfl (h_gr (a := 26) (k := 31) (m := 48) (sh_si hS ly_26 (k := 30) rfl ((w_i w 26 30) - 1)) ly_26 rfl) rfl ?_
  refine gk_W_s 1 (pc1 := 15) (l1 := [some (.ref 27), some (.int x1), none, none, none, none]) (st1 := [.ref 27, .ref 48]) rfl ?_
  refine gk_W_h (i := .getfield 293) 18 rfl rfl (h_gi (a := 26) (k := 30) (sh_si hS ly_26 (k := 30) rfl ((w_i w 26 30) - 1)) ly_26 rfl) rfl ?_
  obtain ⟨hb1, h⟩ := h
  refine gk_W_h (i := .iaload) 19 rfl rfl (h_al (a := 47) (scr := none) (sh_si hS ly_26 (k := 30) rfl ((w_i w 26 30) - 1)) ly_47 hb1) rfl ?_
  refine gk_W_s 2 (pc1 := 21) (l1 := [some (.ref 27), some (.int x1), some (.int ((w_a (w_si w 26 30 ((w_i w 26 30) - 1)) 47).getD (w_i (w_si w 26 30 ((w_i w 26 30) - 1)) 26 30).toNatClampNeg 0)), none, none, none]) (st1 := [.ref 27]) rfl ?_
  refine gk_W_h (i := .getfield 293) 24 rfl rfl (h_gi (a := 26) (k := 30) (sh_si hS ly_26 (k := 30) rfl ((w_i w 26 30) - 1)) ly_26 rfl) rfl ?_
  refine gk_W_s 3 (pc1 := 28) (l1 := [some (.ref 27), some (.int x1), some (.int ((w_a (w_si w 26 30 ((w_i w 26 30) - 1)) 47).getD (w_i (w_si w 26 30 ((w_i w 26 30) - 1)) 26 30).toNatClampNeg 0)), some (.int (w_i (w_si w 26 30 ((w_i w 26 30) - 1)) 26 30)), some (.int 0), none]) (st1 := []) rfl ?_
  exact h
set_option maxRecDepth 8000 in
/-- GrammarDeskModel.chooseRule(I)I, at 28 -/
theorem sg_213_28 {d : Nat} {rr : List gk_S} {w w' : gk_Wd} {r : gk_Res} (hS : gk_Sh rr w) (x1 : Int32) (x2 : Int32) (x3 : Int32) (x4 : Int32)
    (h : (((w_i w 26 4) ≤ x4 → (r = .inl (some (.int ((-1)))) ∧ w' = w)) ∧ (¬ ((w_i w 26 4) ≤ x4) → (gk_out x4 64 = false ∧ ((¬ ((w_a w 28).getD x4.toNatClampNeg 0) = x2 → gk_W none (d + 1) 213 28 [some (.ref 27), some (.int x1), some (.int x2), some (.int x3), some (.int (x4 + 1)), none] [] w r w') ∧ (((w_a w 28).getD x4.toNatClampNeg 0) = x2 → ((gk_out ((10 * x4) + 0) 640 = false) ∧ (gk_out x1 10 = false ∧ (((f_151 w x4 0) = ((w_a w 43).getD x1.toNatClampNeg 0) → (gk_out x4 64 = false ∧ gk_W none (d + 1) 213 83 [some (.ref 27), some (.int x1), some (.int x2), some (.int x3), some (.int x4), some (.int (((w_a (w_si w 26 30 x3) 29).getD x4.toNatClampNeg 0) - 1))] [] (w_si w 26 30 x3) r w')) ∧ (¬ ((f_151 w x4 0) = ((w_a w 43).getD x1.toNatClampNeg 0)) → gk_W none (d + 1) 213 28 [some (.ref 27), some (.int x1), some (.int x2), some (.int x3), some (.int (x4 + 1)), none] [] w r w')))))))))) :
    gk_W none (d + 1) 213 28 [some (.ref 27), some (.int x1), some (.int x2), some (.int x3), some (.int x4), none] [] w r w' := by
  refine gk_W_s 2 (pc1 := 31) (l1 := [some (.ref 27), some (.int x1), some (.int x2), some (.int x3), some (.int x4), none]) (st1 := [.ref 27, .int x4]) rfl ?_
  refine gk_W_h (i := .getfield 111) 34 rfl rfl (h_gi (a := 26) (k := 4) hS ly_26 rfl) rfl ?_
  refine gk_W_b 1 ((w_i w 26 4) ≤ x4) (t := 140) (e := 37) (l1 := [some (.ref 27), some (.int x1), some (.int x2), some (.int x3), some (.int x4), none]) (st1 := []) rfl (fun hp1 => ?_) (fun hp1 => ?_)
  · have h := h.1 hp1
    refine gk_W_s 1 (pc1 := 141) (l1 := [some (.ref 27), some (.int x1), some (.int x2), some (.int x3), some (.int x4), none]) (st1 := [.int ((-1))]) rfl ?_
    obtain ⟨rfl, rfl⟩ := h
    exact gk_W_r (i := .ireturn) rfl rfl rfl
  · have h := h.2 hp1
    refine gk_W_s 1 (pc1 := 38) (l1 := [some (.ref 27), some (.int x1), some (.int x2), some (.int x3), some (.int x4), none]) (st1 := [.ref 27]) rfl ?_
    refine gk_W_h (i := .getfield 17) 41 rfl rfl (h_gr (a := 26) (k := 5) (m := 29) hS ly_26 rfl) rfl ?_
    refine gk_W_s 1 (pc1 := 43) (l1 := [some (.ref 27), some (.int x1), some (.int x2), some (.int x3), some (.int x4), none]) (st1 := [.int x4, .ref 29]) rfl ?_
    obtain ⟨hb2, h⟩ := h
    refine gk_W_h (i := .iaload) 44 rfl rfl (h_al (a := 28) (scr := none) hS ly_28 hb2) rfl ?_
    refine gk_W_b 2 (¬ ((w_a w 28).getD x4.toNatClampNeg 0) = x2) (t := 134) (e := 48) (l1 := [some (.ref 27), some (.int x1), some (.int x2), some (.int x3), some (.int x4), none]) (st1 := []) rfl (fun hp3 => ?_) (fun hp3 => ?_)
    · have h := h.1 hp3
      refine gk_W_s 2 (pc1 := 28) (l1 := [some (.ref 27), some (.int x1), some (.int x2), some (.int x3), some (.int (x4 + 1)), none]) (st1 := []) rfl ?_
      exact h
    · have h := h.2 (Decidable.not_not.mp hp3)
      refine gk_W_s 3 (pc1 := 52) (l1 := [some (.ref 27), some (.int x1), some (.int x2), some (.int x3), some (.int x4), none]) (st1 := [.int 0, .int x4, .ref 27]) rfl ?_
      obtain ⟨hb4, h⟩ := h
      refine gk_W_c (i := .invokevirtual 103) [.int (f_151 w x4 0)] 55 rfl rfl (c_v (a := 26) hS ly_26 rfl rfl (Nat.le_of_ble_eq_true rfl)) (f_151_E hS x4 0 hb4) rfl rfl ?_
      refine gk_W_s 1 (pc1 := 56) (l1 := [some (.ref 27), some (.int x1), some (.int x2), some (.int x3), some (.int x4), none]) (st1 := [.ref 27, .int (f_151 w x4 0)]) rfl ?_
      refine gk_W_h (i := .getfield 64) 59 rfl rfl (h_gr (a := 26) (k := 25) (m := 44) hS ly_26 rfl) rfl ?_
      refine gk_W_s 1 (pc1 := 60) (l1 := [some (.ref 27), some (.int x1), some (.int x2), some (.int x3), some (.int x4), none]) (st1 := [.int x1, .ref 44, .int (f_151 w x4 0)]) rfl ?_
      obtain ⟨hb5, h⟩ := h
      refine gk_W_h (i := .iaload) 61 rfl rfl (h_al (a := 43) (scr := none) hS ly_43 hb5) rfl ?_
      refine gk_W_b 1 ((f_151 w x4 0) = ((w_a w 43).getD x1.toNatClampNeg 0)) (t := 67) (e := 64) (l1 := [some (.ref 27), some (.int x1), some (.int x2), some (.int x3), some (.int x4), none]) (st1 := []) rfl (fun hp6 => ?_) (fun hp6 => ?_)
      · have h := h.1 hp6
        refine gk_W_s 2 (pc1 := 69) (l1 := [some (.ref 27), some (.int x1), some (.int x2), some (.int x3), some (.int x4), none]) (st1 := [.int x3, .ref 27]) rfl ?_
        refine gk_W_h (i := .putfield 293) 72 rfl rfl (h_pi (a := 26) (k := 30) (x := x3) hS ly_26 rfl rfl) rfl ?_
        refine gk_W_s 1 (pc1 := 73) (l1 := [some (.ref 27), some (.int x1), some (.int x2), some (.int x3), some (.int x4), none]) (st1 := [.ref 27]) rfl ?_
        refine gk_W_h (i := .getfield 21) 76 rfl rfl (h_gr (a := 26) (k := 6) (m := 30) (sh_si hS ly_26 (k := 30) rfl x3) ly_26 rfl) rfl ?_
        refine gk_W_s 1 (pc1 := 78) (l1 := [some (.ref 27), some (.int x1), some (.int x2), some (.int x3), some (.int x4), none]) (st1 := [.int x4, .ref 30]) rfl ?_
        obtain ⟨hb7, h⟩ := h
        refine gk_W_h (i := .iaload) 79 rfl rfl (h_al (a := 29) (scr := none) (sh_si hS ly_26 (k := 30) rfl x3) ly_29 hb7) rfl ?_
        refine gk_W_s 3 (pc1 := 83) (l1 := [some (.ref 27), some (.int x1), some (.int x2), some (.int x3), some (.int x4), some (.int (((w_a (w_si w 26 30 x3) 29).getD x4.toNatClampNeg 0) - 1))]) (st1 := []) rfl ?_
        exact h
      · have h := h.2 hp6
        refine gk_W_s 3 (pc1 := 28) (l1 := [some (.ref 27), some (.int x1), some (.int x2), some (.int x3), some (.int (x4 + 1)), none]) (st1 := []) rfl ?_
        exact h
set_option maxRecDepth 8000 in
/-- GrammarDeskModel.chooseRule(I)I, at 83 -/
theorem sg_213_83 {d : Nat} {rr : List gk_S} {w w' : gk_Wd} {r : gk_Res} (hS : gk_Sh rr w) (x1 : Int32) (x2 : Int32) (x3 : Int32) (x4 : Int32) (x5 : Int32)
    (h : ((x5 ≤ 0 → (∃ (v3 : Int32), gk_E d 214 [.ref 27, .int (x1 + 1)] w (.inl (some (.int v3))) w ∧ ((v3 = 0 → gk_W none (d + 1) 213 28 [some (.ref 27), some (.int x1), some (.int x2), some (.int x3), some (.int (x4 + 1)), none] [] w r w') ∧ (¬ (v3 = 0) → (r = .inl (some (.int x4)) ∧ w' = w))))) ∧ (¬ (x5 ≤ 0) → ((gk_out ((10 * x4) + x5) 640 = false) ∧ (gk_out (w_i w 26 30) 40 = false ∧ gk_W none (d + 1) 213 83 [some (.ref 27), some (.int x1), some (.int x2), some (.int x3), some (.int x4), some (.int (x5 + (-1)))] [] (w_si (w_sa w 47 ((w_a w 47).set (w_i w 26 30).toNatClampNeg (f_151 w x4 x5))) 26 30 ((w_i (w_sa w 47 ((w_a w 47).set (w_i w 26 30).toNatClampNeg (f_151 w x4 x5))) 26 30) + 1)) r w'))))) :
    gk_W none (d + 1) 213 83 [some (.ref 27), some (.int x1), some (.int x2), some (.int x3), some (.int x4), some (.int x5)] [] w r w' := by
  refine gk_W_b 2 (x5 ≤ 0) (t := 121) (e := 88) (l1 := [some (.ref 27), some (.int x1), some (.int x2), some (.int x3), some (.int x4), some (.int x5)]) (st1 := []) rfl (fun hp1 => ?_) (fun hp1 => ?_)
  · have h := h.1 hp1
    refine gk_W_s 4 (pc1 := 125) (l1 := [some (.ref 27), some (.int x1), some (.int x2), some (.int x3), some (.int x4), some (.int x5)]) (st1 := [.int (x1 + 1), .ref 27]) rfl ?_
    obtain ⟨v3, hE2, h⟩ := h
    refine gk_W_c (i := .invokevirtual 296) [.int v3] 128 rfl rfl (c_v (a := 26) hS ly_26 rfl rfl (Nat.le_of_ble_eq_true rfl)) hE2 rfl rfl ?_
    refine gk_W_b 1 (v3 = 0) (t := 134) (e := 131) (l1 := [some (.ref 27), some (.int x1), some (.int x2), some (.int x3), some (.int x4), some (.int x5)]) (st1 := []) rfl (fun hp4 => ?_) (fun hp4 => ?_)
    · have h := h.1 hp4
      refine gk_W_s 2 (pc1 := 28) (l1 := [some (.ref 27), some (.int x1), some (.int x2), some (.int x3), some (.int (x4 + 1)), some (.int x5)]) (st1 := []) rfl ?_
      exact gk_W_le (gk_le_s (gk_le_s (gk_le_s (gk_le_s (gk_le_s (gk_le_n (gk_le_0))))))) h
    · have h := h.2 hp4
      refine gk_W_s 1 (pc1 := 133) (l1 := [some (.ref 27), some (.int x1), some (.int x2), some (.int x3), some (.int x4), some (.int x5)]) (st1 := [.int x4]) rfl ?_
      obtain ⟨rfl, rfl⟩ := h
      exact gk_W_r (i := .ireturn) rfl rfl rfl
  · have h := h.2 hp1
    refine gk_W_s 1 (pc1 := 89) (l1 := [some (.ref 27), some (.int x1), some (.int x2), some (.int x3), some (.int x4), some (.int x5)]) (st1 := [.ref 27]) rfl ?_
    refine gk_W_h (i := .getfield 76) 92 rfl rfl (h_gr (a := 26) (k := 31) (m := 48) hS ly_26 rfl) rfl ?_
    refine gk_W_s 1 (pc1 := 93) (l1 := [some (.ref 27), some (.int x1), some (.int x2), some (.int x3), some (.int x4), some (.int x5)]) (st1 := [.ref 27, .ref 48]) rfl ?_
    refine gk_W_h (i := .getfield 293) 96 rfl rfl (h_gi (a := 26) (k := 30) hS ly_26 rfl) rfl ?_
    refine gk_W_s 3 (pc1 := 101) (l1 := [some (.ref 27), some (.int x1), some (.int x2), some (.int x3), some (.int x4), some (.int x5)]) (st1 := [.int x5, .int x4, .ref 27, .int (w_i w 26 30), .ref 48]) rfl ?_
    obtain ⟨hb5, h⟩ := h
    refine gk_W_c (i := .invokevirtual 103) [.int (f_151 w x4 x5), .int (w_i w 26 30), .ref 48] 104 rfl rfl (c_v (a := 26) hS ly_26 rfl rfl (Nat.le_of_ble_eq_true rfl)) (f_151_E hS x4 x5 hb5) rfl rfl ?_
    obtain ⟨hb6, h⟩ := h
    refine gk_W_h (i := .iastore) 105 rfl rfl (h_as (a := 47) (t := 0) hS ly_47 hb6 rfl) rfl ?_
    refine gk_W_s 2 (pc1 := 107) (l1 := [some (.ref 27), some (.int x1), some (.int x2), some (.int x3), some (.int x4), some (.int x5)]) (st1 := [.ref 27, .ref 27]) rfl ?_
    refine gk_W_h (i := .getfield 293) 110 rfl rfl (h_gi (a := 26) (k := 30) (sh_as hS ly_47 ((w_i w 26 30).toNatClampNeg) (f_151 w x4 x5)) ly_26 rfl) rfl ?_
    refine gk_W_s 2 (pc1 := 112) (l1 := [some (.ref 27), some (.int x1), some (.int x2), some (.int x3), some (.int x4), some (.int x5)]) (st1 := [.int ((w_i (w_sa w 47 ((w_a w 47).set (w_i w 26 30).toNatClampNeg (f_151 w x4 x5))) 26 30) + 1), .ref 27]) rfl ?_
    refine gk_W_h (i := .putfield 293) 115 rfl rfl (h_pi (a := 26) (k := 30) (x := (w_i (w_sa w 47 ((w_a w 47).set (w_i w 26 30).toNatClampNeg (f_151 w x4 x5))) 26 30) + 1) (sh_as hS ly_47 ((w_i w 26 30).toNatClampNeg) (f_151 w x4 x5)) ly_26 rfl rfl) rfl ?_
    refine gk_W_s 2 (pc1 := 83) (l1 := [some (.ref 27), some (.int x1), some (.int x2), some (.int x3), some (.int x4), some (.int (x5 + (-1)))]) (st1 := []) rfl ?_
    exact h
set_option maxRecDepth 8000 in
/-- GrammarDeskModel.canEnd(I)Z, at 0 -/
theorem sg_214_0 {d : Nat} {rr : List gk_S} {w w' : gk_Wd} {r : gk_Res} (hS : gk_Sh rr w) (x1 : Int32)
    (h : gk_W none (d + 1) 214 11 [some (.ref 27), none, some (.int (1 <<< (x1 &&& 31))), some (.int ((w_i w 26 30) - 1))] [] w r w') :
    gk_W none (d + 1) 214 0 [some (.ref 27), some (.int x1), none, none] [] w r w' := by
  refine gk_W_s 5 (pc1 := 5) (l1 := [some (.ref 27), some (.int x1), some (.int (1 <<< (x1 &&& 31))), none]) (st1 := [.ref 27]) rfl ?_
  refine gk_W_h (i := .getfield 293) 8 rfl rfl (h_gi (a := 26) (k := 30) hS ly_26 rfl) rfl ?_
  refine gk_W_s 3 (pc1 := 11) (l1 := [some (.ref 27), some (.int x1), some (.int (1 <<< (x1 &&& 31))), some (.int ((w_i w 26 30) - 1))]) (st1 := []) rfl ?_
  exact gk_W_le (gk_le_s (gk_le_n (gk_le_s (gk_le_s (gk_le_0))))) h
set_option maxRecDepth 8000 in
/-- GrammarDeskModel.canEnd(I)Z, at 11 -/
theorem sg_214_11 {d : Nat} {rr : List gk_S} {w w' : gk_Wd} {r : gk_Res} (hS : gk_Sh rr w) (x2 : Int32) (x3 : Int32)
    (h : ((x3 < 0 → ((¬ ((x2 >>> ((w_i w 26 24) &&& 31)) &&& 1) = 1 → (r = .inl (some (.int 0)) ∧ w' = w)) ∧ (((x2 >>> ((w_i w 26 24) &&& 31)) &&& 1) = 1 → (r = .inl (some (.int 1)) ∧ w' = w)))) ∧ (¬ (x3 < 0) → (gk_out x3 40 = false ∧ (∃ (v5 : Int32), gk_E d 207 [.ref 27, .int ((w_a w 47).getD x3.toNatClampNeg 0), .int x2] w (.inl (some (.int v5))) w ∧ gk_W none (d + 1) 214 11 [some (.ref 27), none, some (.int v5), some (.int (x3 + (-1)))] [] w r w'))))) :
    gk_W none (d + 1) 214 11 [some (.ref 27), none, some (.int x2), some (.int x3)] [] w r w' := by
  refine gk_W_b 2 (x3 < 0) (t := 33) (e := 15) (l1 := [some (.ref 27), none, some (.int x2), some (.int x3)]) (st1 := []) rfl (fun hp1 => ?_) (fun hp1 => ?_)
  · have h := h.1 hp1
    refine gk_W_s 2 (pc1 := 35) (l1 := [some (.ref 27), none, some (.int x2), some (.int x3)]) (st1 := [.ref 27, .int x2]) rfl ?_
    refine gk_W_h (i := .getfield 270) 38 rfl rfl (h_gi (a := 26) (k := 24) hS ly_26 rfl) rfl ?_
    refine gk_W_b 5 (¬ ((x2 >>> ((w_i w 26 24) &&& 31)) &&& 1) = 1) (t := 49) (e := 45) (l1 := [some (.ref 27), none, some (.int x2), some (.int x3)]) (st1 := []) rfl (fun hp2 => ?_) (fun hp2 => ?_)
    · have h := h.1 hp2
      refine gk_W_s 1 (pc1 := 50) (l1 := [some (.ref 27), none, some (.int x2), some (.int x3)]) (st1 := [.int 0]) rfl ?_
      obtain ⟨rfl, rfl⟩ := h
      exact gk_W_r (i := .ireturn) rfl rfl rfl
    · have h := h.2 (Decidable.not_not.mp hp2)
      refine gk_W_s 2 (pc1 := 50) (l1 := [some (.ref 27), none, some (.int x2), some (.int x3)]) (st1 := [.int 1]) rfl ?_
      obtain ⟨rfl, rfl⟩ := h
      exact gk_W_r (i := .ireturn) rfl rfl rfl
  · have h := h.2 hp1
    refine gk_W_s 2 (pc1 := 17) (l1 := [some (.ref 27), none, some (.int x2), some (.int x3)]) (st1 := [.ref 27, .ref 27]) rfl ?_
    refine gk_W_h (i := .getfield 76) 20 rfl rfl (h_gr (a := 26) (k := 31) (m := 48) hS ly_26 rfl) rfl ?_
    refine gk_W_s 1 (pc1 := 21) (l1 := [some (.ref 27), none, some (.int x2), some (.int x3)]) (st1 := [.int x3, .ref 48, .ref 27]) rfl ?_
    obtain ⟨hb3, h⟩ := h
    refine gk_W_h (i := .iaload) 22 rfl rfl (h_al (a := 47) (scr := none) hS ly_47 hb3) rfl ?_
    refine gk_W_s 1 (pc1 := 23) (l1 := [some (.ref 27), none, some (.int x2), some (.int x3)]) (st1 := [.int x2, .int ((w_a w 47).getD x3.toNatClampNeg 0), .ref 27]) rfl ?_
    obtain ⟨v5, hE4, h⟩ := h
    refine gk_W_c (i := .invokevirtual 273) [.int v5] 26 rfl rfl (c_v (a := 26) hS ly_26 rfl rfl (Nat.le_of_ble_eq_true rfl)) hE4 rfl rfl ?_
    refine gk_W_s 3 (pc1 := 11) (l1 := [some (.ref 27), none, some (.int v5), some (.int (x3 + (-1)))]) (st1 := []) rfl ?_
    exact h
