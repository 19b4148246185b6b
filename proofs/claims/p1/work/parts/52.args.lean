/-! ints that are numbers; printed by wip/whole/sym.py: calls with arguments -/
theorem i_int {k : Nat} (h : k < 2147483648) : (Int32.ofNat k).toInt = (k : Int) := Int32.toInt_ofNat_of_lt h
theorem i_nat {k : Nat} (h : k < 2147483648) : (Int32.ofNat k).toNatClampNeg = k := Int32.toNatClampNeg_ofNat_of_lt h
theorem i_le {a b : Nat} (ha : a < 2147483648) (hb : b < 2147483648) : Int32.ofNat a ≤ Int32.ofNat b ↔ a ≤ b := Int32.ofNat_le_iff_le ha hb
theorem i_lt {a b : Nat} (ha : a < 2147483648) (hb : b < 2147483648) : Int32.ofNat a < Int32.ofNat b ↔ a < b := Int32.ofNat_lt_iff_lt ha hb
theorem i_eq {a b : Nat} (ha : a < 2147483648) (hb : b < 2147483648) : Int32.ofNat a = Int32.ofNat b ↔ a = b := by
  constructor
  · intro h
    have := congrArg Int32.toNatClampNeg h
    rwa [i_nat ha, i_nat hb] at this
  · intro h; rw [h]
theorem i_add (a b : Nat) : Int32.ofNat a + Int32.ofNat b = Int32.ofNat (a + b) := (Int32.ofNat_add a b).symm
theorem i_sub {a b : Nat} (h : b ≤ a) : Int32.ofNat a - Int32.ofNat b = Int32.ofNat (a - b) := (Int32.ofNat_sub a b h).symm
theorem i_mul (a b : Nat) : Int32.ofNat a * Int32.ofNat b = Int32.ofNat (a * b) := (Int32.ofNat_mul a b).symm
theorem i_s (a : Nat) : Int32.ofNat a + 1 = Int32.ofNat (a + 1) := i_add a 1
theorem o_ok {k n : Nat} (h : k < n) (hn : n < 2147483648) : gk_out (Int32.ofNat k) n = false := by
  unfold gk_out
  rw [i_nat (by omega)]
  apply decide_eq_false
  rintro (h1 | h1)
  · have h2 : Int32.ofNat k < Int32.ofNat 0 := h1
    rw [i_lt (by omega) (by omega)] at h2
    omega
  · omega
theorem gk_E_i {d mj : Nat} {as : List Value} {l : gk_Lc} {w w' : gk_Wd} {r : gk_Res} (hf : Nat.ble (as.flatMap gk_slots).length (gk_inf gp_P mj).1 = true) (hl : gk_entry as (gk_inf gp_P mj).1 = l) (h : gk_W none d mj 0 l [] w r w') : gk_E d mj as w r w' := ⟨Nat.le_of_ble_eq_true hf, by rw [hl]; exact h⟩
theorem gk_W_sd {scr : Option (List Int32)} {dd mi pc : Nat} {l : gk_Lc} {st : List Value} {w w' : gk_Wd} {r : gk_Res} {x : Int32} {d lo hi : Int} {offs : Array Int} {t : Nat} (hd : gk_dec gp_P mi pc = some (.tableswitch d lo hi offs)) (hx : x.toInt < lo ∨ hi < x.toInt) (ht : gk_jmp pc d = some t) (h : gk_W scr dd mi t l st w r w') : gk_W scr dd mi pc l (.int x :: st) w r w' := gk_W_p hd (x := (t, l, st)) (by simp only [gk_pure, gk_sw]; rw [if_pos hx]; simp only [gk_to, ht]) h
theorem gk_sw3 {x : Int32} (h0 : ¬ x = 0) (h1 : ¬ x = 1) (h2 : ¬ x = 2) : x.toInt < 0 ∨ 2 < x.toInt := by
  have a0 : x.toInt ≠ 0 := fun h => h0 (Int32.toInt_inj.mp h)
  have a1 : x.toInt ≠ 1 := fun h => h1 (Int32.toInt_inj.mp h)
  have a2 : x.toInt ≠ 2 := fun h => h2 (Int32.toInt_inj.mp h)
  omega
/-- GrammarDesk$Draft.add(C)Z, at 0 -/
theorem sg_10_0 {d : Nat} {rr : List gk_S} {w w' : gk_Wd} {r : gk_Res} (hS : gk_Sh rr w) (x1 : Int32)
    (h : ((x1 < 32 → (r = .inl (some (.int 0)) ∧ w' = w)) ∧ (¬ (x1 < 32) → ((126 < x1 → (r = .inl (some (.int 0)) ∧ w' = w)) ∧ (¬ (126 < x1) → (((w_i w 1 1) < 9 → (gk_out (w_i w 1 1) 9 = false ∧ fits (gk_ty 1) (.int x1) = true ∧ (r = .inl (some (.int 1)) ∧ w' = w_si (w_sa w 2 ((w_a w 2).set (w_i w 1 1).toNatClampNeg x1)) 1 1 ((w_i (w_sa w 2 ((w_a w 2).set (w_i w 1 1).toNatClampNeg x1)) 1 1) + 1)))) ∧ (¬ ((w_i w 1 1) < 9) → (r = .inl (some (.int 0)) ∧ w' = w)))))))) :
    gk_W none d 10 0 [some (.ref 2), some (.int x1)] [] w r w' := by
  refine gk_W_b 3 (x1 < 32) (t := 21) (e := 6) (l1 := [some (.ref 2), some (.int x1)]) (st1 := []) rfl (fun hp1 => ?_) (fun hp1 => ?_)
  · have h := h.1 hp1
    refine gk_W_s 1 (pc1 := 22) (l1 := [some (.ref 2), some (.int x1)]) (st1 := [.int 0]) rfl ?_
    obtain ⟨rfl, rfl⟩ := h
    exact gk_W_r (i := .ireturn) rfl rfl rfl
  · have h := h.2 hp1
    refine gk_W_b 3 (126 < x1) (t := 21) (e := 12) (l1 := [some (.ref 2), some (.int x1)]) (st1 := []) rfl (fun hp2 => ?_) (fun hp2 => ?_)
    · have h := h.1 hp2
      refine gk_W_s 1 (pc1 := 22) (l1 := [some (.ref 2), some (.int x1)]) (st1 := [.int 0]) rfl ?_
      obtain ⟨rfl, rfl⟩ := h
      exact gk_W_r (i := .ireturn) rfl rfl rfl
    · have h := h.2 hp2
      refine gk_W_s 1 (pc1 := 13) (l1 := [some (.ref 2), some (.int x1)]) (st1 := [.ref 2]) rfl ?_
      refine gk_W_h (i := .getfield 15) 16 rfl rfl (h_gi (a := 1) (k := 1) hS ly_1 rfl) rfl ?_
      refine gk_W_b 2 ((w_i w 1 1) < 9) (t := 23) (e := 21) (l1 := [some (.ref 2), some (.int x1)]) (st1 := []) rfl (fun hp3 => ?_) (fun hp3 => ?_)
      · have h := h.1 hp3
        refine gk_W_s 1 (pc1 := 24) (l1 := [some (.ref 2), some (.int x1)]) (st1 := [.ref 2]) rfl ?_
        refine gk_W_h (i := .getfield 11) 27 rfl rfl (h_gr (a := 1) (k := 0) (m := 3) hS ly_1 rfl) rfl ?_
        refine gk_W_s 1 (pc1 := 28) (l1 := [some (.ref 2), some (.int x1)]) (st1 := [.ref 2, .ref 3]) rfl ?_
        refine gk_W_h (i := .getfield 15) 31 rfl rfl (h_gi (a := 1) (k := 1) hS ly_1 rfl) rfl ?_
        refine gk_W_s 1 (pc1 := 32) (l1 := [some (.ref 2), some (.int x1)]) (st1 := [.int x1, .int (w_i w 1 1), .ref 3]) rfl ?_
        obtain ⟨hb4, hf5, h⟩ := h
        refine gk_W_h (i := .castore) 33 rfl rfl (h_as (a := 2) (t := 1) hS ly_2 hb4 hf5) rfl ?_
        refine gk_W_s 2 (pc1 := 35) (l1 := [some (.ref 2), some (.int x1)]) (st1 := [.ref 2, .ref 2]) rfl ?_
        refine gk_W_h (i := .getfield 15) 38 rfl rfl (h_gi (a := 1) (k := 1) (sh_as hS ly_2 ((w_i w 1 1).toNatClampNeg) x1) ly_1 rfl) rfl ?_
        refine gk_W_s 2 (pc1 := 40) (l1 := [some (.ref 2), some (.int x1)]) (st1 := [.int ((w_i (w_sa w 2 ((w_a w 2).set (w_i w 1 1).toNatClampNeg x1)) 1 1) + 1), .ref 2]) rfl ?_
        refine gk_W_h (i := .putfield 15) 43 rfl rfl (h_pi (a := 1) (k := 1) (x := (w_i (w_sa w 2 ((w_a w 2).set (w_i w 1 1).toNatClampNeg x1)) 1 1) + 1) (sh_as hS ly_2 ((w_i w 1 1).toNatClampNeg) x1) ly_1 rfl rfl) rfl ?_
        refine gk_W_s 1 (pc1 := 44) (l1 := [some (.ref 2), some (.int x1)]) (st1 := [.int 1]) rfl ?_
        obtain ⟨rfl, rfl⟩ := h
        exact gk_W_r (i := .ireturn) rfl rfl rfl
      · have h := h.2 hp3
        refine gk_W_s 1 (pc1 := 22) (l1 := [some (.ref 2), some (.int x1)]) (st1 := [.int 0]) rfl ?_
        obtain ⟨rfl, rfl⟩ := h
        exact gk_W_r (i := .ireturn) rfl rfl rfl
/-- GrammarDesk.type(C)Z, at 0 -/
theorem sg_9_0 {d : Nat} {rr : List gk_S} {w w' : gk_Wd} {r : gk_Res} (hS : gk_Sh rr w) (x1 : Int32)
    (h : (∃ (v2 : Int32), ∃ (w3 : gk_Wd), gk_E d 10 [.ref 2, .int x1] w (.inl (some (.int v2))) w3 ∧ gk_Sh rr w3 ∧ (fits .boolean (.int v2) = true ∧ r = .inl (some (.int v2)) ∧ w' = w3))) :
    gk_W none (d + 1) 9 0 [some (.ref 1), some (.int x1)] [] w r w' := by
  refine gk_W_s 1 (pc1 := 1) (l1 := [some (.ref 1), some (.int x1)]) (st1 := [.ref 1]) rfl ?_
  refine gk_W_h (i := .getfield 12) 4 rfl rfl (h_gr (a := 0) (k := 0) (m := 2) hS ly_0 rfl) rfl ?_
  refine gk_W_s 1 (pc1 := 5) (l1 := [some (.ref 1), some (.int x1)]) (st1 := [.int x1, .ref 2]) rfl ?_
  obtain ⟨v2, w3, hE1, hS4, h⟩ := h
  refine gk_W_c (i := .invokevirtual 67) [.int v2] 8 rfl rfl (c_v (a := 1) hS ly_1 rfl rfl (Nat.le_of_ble_eq_true rfl)) hE1 rfl rfl ?_
  obtain ⟨hf, rfl, rfl⟩ := h
  exact gk_W_r (i := .ireturn) rfl rfl (gk_ret_f hf)
/-- GrammarDeskModel.type(C)Z, at 0 -/
theorem sg_142_0 {d : Nat} {rr : List gk_S} {w w' : gk_Wd} {r : gk_Res} (hS : gk_Sh rr w) (x1 : Int32)
    (h : ((x1 < 32 → (r = .inl (some (.int 0)) ∧ w' = w_si w 26 0 0)) ∧ (¬ (x1 < 32) → ((126 < x1 → (r = .inl (some (.int 0)) ∧ w' = w_si w 26 0 0)) ∧ (¬ (126 < x1) → ((¬ (w_i (w_si w 26 0 0) 26 1) = 9 → (gk_out (w_i (w_si w 26 0 0) 26 1) 9 = false ∧ fits (gk_ty 1) (.int x1) = true ∧ (r = .inl (some (.int 1)) ∧ w' = w_si (w_sa (w_si w 26 0 0) 27 ((w_a (w_si w 26 0 0) 27).set (w_i (w_si w 26 0 0) 26 1).toNatClampNeg x1)) 26 1 ((w_i (w_sa (w_si w 26 0 0) 27 ((w_a (w_si w 26 0 0) 27).set (w_i (w_si w 26 0 0) 26 1).toNatClampNeg x1)) 26 1) + 1)))) ∧ (¬ ¬ (w_i (w_si w 26 0 0) 26 1) = 9 → (r = .inl (some (.int 0)) ∧ w' = w_si w 26 0 0)))))))) :
    gk_W none d 142 0 [some (.ref 27), some (.int x1)] [] w r w' := by
  refine gk_W_s 2 (pc1 := 2) (l1 := [some (.ref 27), some (.int x1)]) (st1 := [.int 0, .ref 27]) rfl ?_
  refine gk_W_h (i := .putfield 97) 5 rfl rfl (h_pi (a := 26) (k := 0) (x := 0) hS ly_26 rfl rfl) rfl ?_
  refine gk_W_b 3 (x1 < 32) (t := 26) (e := 11) (l1 := [some (.ref 27), some (.int x1)]) (st1 := []) rfl (fun hp1 => ?_) (fun hp1 => ?_)
  · have h := h.1 hp1
    refine gk_W_s 1 (pc1 := 27) (l1 := [some (.ref 27), some (.int x1)]) (st1 := [.int 0]) rfl ?_
    obtain ⟨rfl, rfl⟩ := h
    exact gk_W_r (i := .ireturn) rfl rfl rfl
  · have h := h.2 hp1
    refine gk_W_b 3 (126 < x1) (t := 26) (e := 17) (l1 := [some (.ref 27), some (.int x1)]) (st1 := []) rfl (fun hp2 => ?_) (fun hp2 => ?_)
    · have h := h.1 hp2
      refine gk_W_s 1 (pc1 := 27) (l1 := [some (.ref 27), some (.int x1)]) (st1 := [.int 0]) rfl ?_
      obtain ⟨rfl, rfl⟩ := h
      exact gk_W_r (i := .ireturn) rfl rfl rfl
    · have h := h.2 hp2
      refine gk_W_s 1 (pc1 := 18) (l1 := [some (.ref 27), some (.int x1)]) (st1 := [.ref 27]) rfl ?_
      refine gk_W_h (i := .getfield 141) 21 rfl rfl (h_gi (a := 26) (k := 1) (sh_si hS ly_26 (k := 0) rfl 0) ly_26 rfl) rfl ?_
      refine gk_W_b 2 (¬ (w_i (w_si w 26 0 0) 26 1) = 9) (t := 28) (e := 26) (l1 := [some (.ref 27), some (.int x1)]) (st1 := []) rfl (fun hp3 => ?_) (fun hp3 => ?_)
      · have h := h.1 hp3
        refine gk_W_s 1 (pc1 := 29) (l1 := [some (.ref 27), some (.int x1)]) (st1 := [.ref 27]) rfl ?_
        refine gk_W_h (i := .getfield 7) 32 rfl rfl (h_gr (a := 26) (k := 2) (m := 28) (sh_si hS ly_26 (k := 0) rfl 0) ly_26 rfl) rfl ?_
        refine gk_W_s 1 (pc1 := 33) (l1 := [some (.ref 27), some (.int x1)]) (st1 := [.ref 27, .ref 28]) rfl ?_
        refine gk_W_h (i := .getfield 141) 36 rfl rfl (h_gi (a := 26) (k := 1) (sh_si hS ly_26 (k := 0) rfl 0) ly_26 rfl) rfl ?_
        refine gk_W_s 1 (pc1 := 37) (l1 := [some (.ref 27), some (.int x1)]) (st1 := [.int x1, .int (w_i (w_si w 26 0 0) 26 1), .ref 28]) rfl ?_
        obtain ⟨hb4, hf5, h⟩ := h
        refine gk_W_h (i := .castore) 38 rfl rfl (h_as (a := 27) (t := 1) (sh_si hS ly_26 (k := 0) rfl 0) ly_27 hb4 hf5) rfl ?_
        refine gk_W_s 2 (pc1 := 40) (l1 := [some (.ref 27), some (.int x1)]) (st1 := [.ref 27, .ref 27]) rfl ?_
        refine gk_W_h (i := .getfield 141) 43 rfl rfl (h_gi (a := 26) (k := 1) (sh_as (sh_si hS ly_26 (k := 0) rfl 0) ly_27 ((w_i (w_si w 26 0 0) 26 1).toNatClampNeg) x1) ly_26 rfl) rfl ?_
        refine gk_W_s 2 (pc1 := 45) (l1 := [some (.ref 27), some (.int x1)]) (st1 := [.int ((w_i (w_sa (w_si w 26 0 0) 27 ((w_a (w_si w 26 0 0) 27).set (w_i (w_si w 26 0 0) 26 1).toNatClampNeg x1)) 26 1) + 1), .ref 27]) rfl ?_
        refine gk_W_h (i := .putfield 141) 48 rfl rfl (h_pi (a := 26) (k := 1) (x := (w_i (w_sa (w_si w 26 0 0) 27 ((w_a (w_si w 26 0 0) 27).set (w_i (w_si w 26 0 0) 26 1).toNatClampNeg x1)) 26 1) + 1) (sh_as (sh_si hS ly_26 (k := 0) rfl 0) ly_27 ((w_i (w_si w 26 0 0) 26 1).toNatClampNeg) x1) ly_26 rfl rfl) rfl ?_
        refine gk_W_s 1 (pc1 := 49) (l1 := [some (.ref 27), some (.int x1)]) (st1 := [.int 1]) rfl ?_
        obtain ⟨rfl, rfl⟩ := h
        exact gk_W_r (i := .ireturn) rfl rfl rfl
      · have h := h.2 hp3
        refine gk_W_s 1 (pc1 := 27) (l1 := [some (.ref 27), some (.int x1)]) (st1 := [.int 0]) rfl ?_
        obtain ⟨rfl, rfl⟩ := h
        exact gk_W_r (i := .ireturn) rfl rfl rfl
/-- GrammarDesk.drop(I)Z, at 0 -/
theorem sg_12_0 {d : Nat} {rr : List gk_S} {w w' : gk_Wd} {r : gk_Res} (hS : gk_Sh rr w) (x1 : Int32)
    (h : ((x1 < 0 → (r = .inl (some (.int 0)) ∧ w' = w)) ∧ (¬ (x1 < 0) → ((x1 < (f_13 w 3) → (∃ (w4 : gk_Wd), gk_E d 14 [.ref 4, .int x1] w (.inl none) w4 ∧ gk_Sh rr w4 ∧ (∃ (w7 : gk_Wd), gk_E d 15 [.ref 20] w4 (.inl none) w7 ∧ gk_Sh rr w7 ∧ (r = .inl (some (.int 1)) ∧ w' = w7)))) ∧ (¬ (x1 < (f_13 w 3)) → (r = .inl (some (.int 0)) ∧ w' = w)))))) :
    gk_W none (d + 1) 12 0 [some (.ref 1), some (.int x1)] [] w r w' := by
  refine gk_W_b 2 (x1 < 0) (t := 15) (e := 4) (l1 := [some (.ref 1), some (.int x1)]) (st1 := []) rfl (fun hp1 => ?_) (fun hp1 => ?_)
  · have h := h.1 hp1
    refine gk_W_s 1 (pc1 := 16) (l1 := [some (.ref 1), some (.int x1)]) (st1 := [.int 0]) rfl ?_
    obtain ⟨rfl, rfl⟩ := h
    exact gk_W_r (i := .ireturn) rfl rfl rfl
  · have h := h.2 hp1
    refine gk_W_s 2 (pc1 := 6) (l1 := [some (.ref 1), some (.int x1)]) (st1 := [.ref 1, .int x1]) rfl ?_
    refine gk_W_h (i := .getfield 19) 9 rfl rfl (h_gr (a := 0) (k := 1) (m := 4) hS ly_0 rfl) rfl ?_
    refine gk_W_c (i := .invokevirtual 101) [.int (f_13 w 3), .int x1] 12 rfl rfl (c_v (a := 3) hS ly_3 rfl rfl (Nat.le_of_ble_eq_true rfl)) (f_13_E hS rs_3) rfl rfl ?_
    refine gk_W_b 1 (x1 < (f_13 w 3)) (t := 17) (e := 15) (l1 := [some (.ref 1), some (.int x1)]) (st1 := []) rfl (fun hp2 => ?_) (fun hp2 => ?_)
    · have h := h.1 hp2
      refine gk_W_s 1 (pc1 := 18) (l1 := [some (.ref 1), some (.int x1)]) (st1 := [.ref 1]) rfl ?_
      refine gk_W_h (i := .getfield 19) 21 rfl rfl (h_gr (a := 0) (k := 1) (m := 4) hS ly_0 rfl) rfl ?_
      refine gk_W_s 1 (pc1 := 22) (l1 := [some (.ref 1), some (.int x1)]) (st1 := [.int x1, .ref 4]) rfl ?_
      obtain ⟨w4, hE3, hS5, h⟩ := h
      refine gk_W_c (i := .invokevirtual 104) [] 25 rfl rfl (c_v (a := 3) hS ly_3 rfl rfl (Nat.le_of_ble_eq_true rfl)) hE3 rfl rfl ?_
      refine gk_W_s 1 (pc1 := 26) (l1 := [some (.ref 1), some (.int x1)]) (st1 := [.ref 1]) rfl ?_
      refine gk_W_h (i := .getfield 59) 29 rfl rfl (h_gr (a := 0) (k := 7) (m := 20) hS5 ly_0 rfl) rfl ?_
      obtain ⟨w7, hE6, hS8, h⟩ := h
      refine gk_W_c (i := .invokevirtual 94) [] 32 rfl rfl (c_v (a := 19) hS5 ly_19 rfl rfl (Nat.le_of_ble_eq_true rfl)) hE6 rfl rfl ?_
      refine gk_W_s 1 (pc1 := 33) (l1 := [some (.ref 1), some (.int x1)]) (st1 := [.int 1]) rfl ?_
      obtain ⟨rfl, rfl⟩ := h
      exact gk_W_r (i := .ireturn) rfl rfl rfl
    · have h := h.2 hp2
      refine gk_W_s 1 (pc1 := 16) (l1 := [some (.ref 1), some (.int x1)]) (st1 := [.int 0]) rfl ?_
      obtain ⟨rfl, rfl⟩ := h
      exact gk_W_r (i := .ireturn) rfl rfl rfl
/-- GrammarDeskModel.drop(I)Z, at 0 -/
theorem sg_154_0 {d : Nat} {rr : List gk_S} {w w' : gk_Wd} {r : gk_Res} (hS : gk_Sh rr w) (x1 : Int32)
    (h : ((x1 < 0 → (r = .inl (some (.int 0)) ∧ w' = w_si w 26 0 0)) ∧ (¬ (x1 < 0) → ((x1 < (w_i (w_si w 26 0 0) 26 4) → (∃ (w4 : gk_Wd), gk_E d 155 [.ref 27, .int x1] (w_si w 26 0 0) (.inl none) w4 ∧ gk_Sh rr w4 ∧ (r = .inl (some (.int 1)) ∧ w' = w_si w4 26 28 0))) ∧ (¬ (x1 < (w_i (w_si w 26 0 0) 26 4)) → (r = .inl (some (.int 0)) ∧ w' = w_si w 26 0 0)))))) :
    gk_W none (d + 1) 154 0 [some (.ref 27), some (.int x1)] [] w r w' := by
  refine gk_W_s 2 (pc1 := 2) (l1 := [some (.ref 27), some (.int x1)]) (st1 := [.int 0, .ref 27]) rfl ?_
  refine gk_W_h (i := .putfield 97) 5 rfl rfl (h_pi (a := 26) (k := 0) (x := 0) hS ly_26 rfl rfl) rfl ?_
  refine gk_W_b 2 (x1 < 0) (t := 17) (e := 9) (l1 := [some (.ref 27), some (.int x1)]) (st1 := []) rfl (fun hp1 => ?_) (fun hp1 => ?_)
  · have h := h.1 hp1
    refine gk_W_s 1 (pc1 := 18) (l1 := [some (.ref 27), some (.int x1)]) (st1 := [.int 0]) rfl ?_
    obtain ⟨rfl, rfl⟩ := h
    exact gk_W_r (i := .ireturn) rfl rfl rfl
  · have h := h.2 hp1
    refine gk_W_s 2 (pc1 := 11) (l1 := [some (.ref 27), some (.int x1)]) (st1 := [.ref 27, .int x1]) rfl ?_
    refine gk_W_h (i := .getfield 111) 14 rfl rfl (h_gi (a := 26) (k := 4) (sh_si hS ly_26 (k := 0) rfl 0) ly_26 rfl) rfl ?_
    refine gk_W_b 1 (x1 < (w_i (w_si w 26 0 0) 26 4)) (t := 19) (e := 17) (l1 := [some (.ref 27), some (.int x1)]) (st1 := []) rfl (fun hp2 => ?_) (fun hp2 => ?_)
    · have h := h.1 hp2
      refine gk_W_s 2 (pc1 := 21) (l1 := [some (.ref 27), some (.int x1)]) (st1 := [.int x1, .ref 27]) rfl ?_
      obtain ⟨w4, hE3, hS5, h⟩ := h
      refine gk_W_c (i := .invokevirtual 158) [] 24 rfl rfl (c_v (a := 26) (sh_si hS ly_26 (k := 0) rfl 0) ly_26 rfl rfl (Nat.le_of_ble_eq_true rfl)) hE3 rfl rfl ?_
      refine gk_W_s 2 (pc1 := 26) (l1 := [some (.ref 27), some (.int x1)]) (st1 := [.int 0, .ref 27]) rfl ?_
      refine gk_W_h (i := .putfield 138) 29 rfl rfl (h_pi (a := 26) (k := 28) (x := 0) hS5 ly_26 rfl rfl) rfl ?_
      refine gk_W_s 1 (pc1 := 30) (l1 := [some (.ref 27), some (.int x1)]) (st1 := [.int 1]) rfl ?_
      obtain ⟨rfl, rfl⟩ := h
      exact gk_W_r (i := .ireturn) rfl rfl rfl
    · have h := h.2 hp2
      refine gk_W_s 1 (pc1 := 18) (l1 := [some (.ref 27), some (.int x1)]) (st1 := [.int 0]) rfl ?_
      obtain ⟨rfl, rfl⟩ := h
      exact gk_W_r (i := .ireturn) rfl rfl rfl
/-- GrammarDeskModel.symbol(II)I, at 0 -/
theorem sg_158_0 {d : Nat} {rr : List gk_S} {w w' : gk_Wd} {r : gk_Res} (hS : gk_Sh rr w) (x1 : Int32) (x2 : Int32)
    (h : ((x1 < 0 → (r = .inl (some (.int ((-1)))) ∧ w' = w_si w 26 0 0)) ∧ (¬ (x1 < 0) → ((x1 < (w_i (w_si w 26 0 0) 26 4) → ((x2 < 0 → (r = .inl (some (.int ((-1)))) ∧ w' = w_si w 26 0 0)) ∧ (¬ (x2 < 0) → (gk_out x1 64 = false ∧ ((x2 ≤ ((w_a (w_si w 26 0 0) 29).getD x1.toNatClampNeg 0) → ((¬ x2 = 0 → ((gk_out ((10 * x1) + (x2 - 1)) 640 = false) ∧ (r = .inl (some (.int (f_159 (f_151 (w_si w 26 0 0) x1 (x2 - 1))))) ∧ w' = w_si w 26 0 0))) ∧ (¬ ¬ x2 = 0 → (gk_out x1 64 = false ∧ (r = .inl (some (.int (f_159 ((w_a (w_si w 26 0 0) 28).getD x1.toNatClampNeg 0)))) ∧ w' = w_si w 26 0 0))))) ∧ (¬ (x2 ≤ ((w_a (w_si w 26 0 0) 29).getD x1.toNatClampNeg 0)) → (r = .inl (some (.int ((-1)))) ∧ w' = w_si w 26 0 0))))))) ∧ (¬ (x1 < (w_i (w_si w 26 0 0) 26 4)) → (r = .inl (some (.int ((-1)))) ∧ w' = w_si w 26 0 0)))))) :
    gk_W none (d + 1) 158 0 [some (.ref 27), some (.int x1), some (.int x2)] [] w r w' := by
  refine gk_W_s 2 (pc1 := 2) (l1 := [some (.ref 27), some (.int x1), some (.int x2)]) (st1 := [.int 0, .ref 27]) rfl ?_
  refine gk_W_h (i := .putfield 97) 5 rfl rfl (h_pi (a := 26) (k := 0) (x := 0) hS ly_26 rfl rfl) rfl ?_
  refine gk_W_b 2 (x1 < 0) (t := 17) (e := 9) (l1 := [some (.ref 27), some (.int x1), some (.int x2)]) (st1 := []) rfl (fun hp1 => ?_) (fun hp1 => ?_)
  · have h := h.1 hp1
    refine gk_W_s 1 (pc1 := 18) (l1 := [some (.ref 27), some (.int x1), some (.int x2)]) (st1 := [.int ((-1))]) rfl ?_
    obtain ⟨rfl, rfl⟩ := h
    exact gk_W_r (i := .ireturn) rfl rfl rfl
  · have h := h.2 hp1
    refine gk_W_s 2 (pc1 := 11) (l1 := [some (.ref 27), some (.int x1), some (.int x2)]) (st1 := [.ref 27, .int x1]) rfl ?_
    refine gk_W_h (i := .getfield 111) 14 rfl rfl (h_gi (a := 26) (k := 4) (sh_si hS ly_26 (k := 0) rfl 0) ly_26 rfl) rfl ?_
    refine gk_W_b 1 (x1 < (w_i (w_si w 26 0 0) 26 4)) (t := 19) (e := 17) (l1 := [some (.ref 27), some (.int x1), some (.int x2)]) (st1 := []) rfl (fun hp2 => ?_) (fun hp2 => ?_)
    · have h := h.1 hp2
      refine gk_W_b 2 (x2 < 0) (t := 33) (e := 23) (l1 := [some (.ref 27), some (.int x1), some (.int x2)]) (st1 := []) rfl (fun hp3 => ?_) (fun hp3 => ?_)
      · have h := h.1 hp3
        refine gk_W_s 1 (pc1 := 34) (l1 := [some (.ref 27), some (.int x1), some (.int x2)]) (st1 := [.int ((-1))]) rfl ?_
        obtain ⟨rfl, rfl⟩ := h
        exact gk_W_r (i := .ireturn) rfl rfl rfl
      · have h := h.2 hp3
        refine gk_W_s 2 (pc1 := 25) (l1 := [some (.ref 27), some (.int x1), some (.int x2)]) (st1 := [.ref 27, .int x2]) rfl ?_
        refine gk_W_h (i := .getfield 21) 28 rfl rfl (h_gr (a := 26) (k := 6) (m := 30) (sh_si hS ly_26 (k := 0) rfl 0) ly_26 rfl) rfl ?_
        refine gk_W_s 1 (pc1 := 29) (l1 := [some (.ref 27), some (.int x1), some (.int x2)]) (st1 := [.int x1, .ref 30, .int x2]) rfl ?_
        obtain ⟨hb4, h⟩ := h
        refine gk_W_h (i := .iaload) 30 rfl rfl (h_al (a := 29) (scr := none) (sh_si hS ly_26 (k := 0) rfl 0) ly_29 hb4) rfl ?_
        refine gk_W_b 1 (x2 ≤ ((w_a (w_si w 26 0 0) 29).getD x1.toNatClampNeg 0)) (t := 35) (e := 33) (l1 := [some (.ref 27), some (.int x1), some (.int x2)]) (st1 := []) rfl (fun hp5 => ?_) (fun hp5 => ?_)
        · have h := h.1 hp5
          refine gk_W_b 2 (¬ x2 = 0) (t := 48) (e := 39) (l1 := [some (.ref 27), some (.int x1), some (.int x2)]) (st1 := []) rfl (fun hp6 => ?_) (fun hp6 => ?_)
          · have h := h.1 hp6
            refine gk_W_s 5 (pc1 := 53) (l1 := [some (.ref 27), some (.int x1), some (.int x2)]) (st1 := [.int (x2 - 1), .int x1, .ref 27]) rfl ?_
            obtain ⟨hb7, h⟩ := h
            refine gk_W_c (i := .invokevirtual 103) [.int (f_151 (w_si w 26 0 0) x1 (x2 - 1))] 56 rfl rfl (c_v (a := 26) (sh_si hS ly_26 (k := 0) rfl 0) ly_26 rfl rfl (Nat.le_of_ble_eq_true rfl)) (f_151_E (sh_si hS ly_26 (k := 0) rfl 0) x1 (x2 - 1) hb7) rfl rfl ?_
            refine gk_W_c (i := .invokestatic 162) [.int (f_159 (f_151 (w_si w 26 0 0) x1 (x2 - 1)))] 59 rfl rfl rfl (f_159_E (f_151 (w_si w 26 0 0) x1 (x2 - 1))) rfl rfl ?_
            obtain ⟨rfl, rfl⟩ := h
            exact gk_W_r (i := .ireturn) rfl rfl rfl
          · have h := h.2 hp6
            refine gk_W_s 1 (pc1 := 40) (l1 := [some (.ref 27), some (.int x1), some (.int x2)]) (st1 := [.ref 27]) rfl ?_
            refine gk_W_h (i := .getfield 17) 43 rfl rfl (h_gr (a := 26) (k := 5) (m := 29) (sh_si hS ly_26 (k := 0) rfl 0) ly_26 rfl) rfl ?_
            refine gk_W_s 1 (pc1 := 44) (l1 := [some (.ref 27), some (.int x1), some (.int x2)]) (st1 := [.int x1, .ref 29]) rfl ?_
            obtain ⟨hb8, h⟩ := h
            refine gk_W_h (i := .iaload) 45 rfl rfl (h_al (a := 28) (scr := none) (sh_si hS ly_26 (k := 0) rfl 0) ly_28 hb8) rfl ?_
            refine gk_W_s 1 (pc1 := 56) (l1 := [some (.ref 27), some (.int x1), some (.int x2)]) (st1 := [.int ((w_a (w_si w 26 0 0) 28).getD x1.toNatClampNeg 0)]) rfl ?_
            refine gk_W_c (i := .invokestatic 162) [.int (f_159 ((w_a (w_si w 26 0 0) 28).getD x1.toNatClampNeg 0))] 59 rfl rfl rfl (f_159_E ((w_a (w_si w 26 0 0) 28).getD x1.toNatClampNeg 0)) rfl rfl ?_
            obtain ⟨rfl, rfl⟩ := h
            exact gk_W_r (i := .ireturn) rfl rfl rfl
        · have h := h.2 hp5
          refine gk_W_s 1 (pc1 := 34) (l1 := [some (.ref 27), some (.int x1), some (.int x2)]) (st1 := [.int ((-1))]) rfl ?_
          obtain ⟨rfl, rfl⟩ := h
          exact gk_W_r (i := .ireturn) rfl rfl rfl
    · have h := h.2 hp2
      refine gk_W_s 1 (pc1 := 18) (l1 := [some (.ref 27), some (.int x1), some (.int x2)]) (st1 := [.int ((-1))]) rfl ?_
      obtain ⟨rfl, rfl⟩ := h
      exact gk_W_r (i := .ireturn) rfl rfl rfl
/-- GrammarDesk.language(I)Z, at 0 -/
theorem sg_43_0 {d : Nat} {rr : List gk_S} {w w' : gk_Wd} {r : gk_Res} (hS : gk_Sh rr w) (x1 : Int32)
    (h : ((x1 = 0 → (∃ (v3 : Int32), gk_E d 31 [.ref 4] w (.inl (some (.int v3))) w ∧ ((¬ (f_36 v3 0) = 0 → (r = .inl (some (.int 0)) ∧ w' = w)) ∧ (¬ ¬ (f_36 v3 0) = 0 → (r = .inl (some (.int 1)) ∧ w' = w))))) ∧ (x1 = 1 → (∃ (w7 : gk_Wd), gk_E d 20 [.ref 6, .ref 4] w (.inl none) w7 ∧ gk_Sh rr w7 ∧ (∃ (v10 : Int32), ∃ (w11 : gk_Wd), gk_E d 30 [.ref 8, .ref 6] w7 (.inl (some (.int v10))) w11 ∧ gk_Sh rr w11 ∧ (∃ (v14 : Int32), ∃ (w15 : gk_Wd), gk_E d 44 [.ref 18, .ref 6] w11 (.inl (some (.int v14))) w15 ∧ gk_Sh rr w15 ∧ (fits .boolean (.int v14) = true ∧ r = .inl (some (.int v14)) ∧ w' = w15))))) ∧ (x1 = 2 → (∃ (v19 : Int32), gk_E d 50 [.ref 4] w (.inl (some (.int v19))) w ∧ (fits .boolean (.int (f_36 v19 0)) = true ∧ r = .inl (some (.int (f_36 v19 0))) ∧ w' = w))) ∧ ((x1.toInt < 0 ∨ 2 < x1.toInt) → (r = .inl (some (.int 0)) ∧ w' = w)))) :
    gk_W none (d + 1) 43 0 [some (.ref 1), some (.int x1)] [] w r w' := by
  refine gk_W_s 1 (pc1 := 1) (l1 := [some (.ref 1), some (.int x1)]) (st1 := [.int x1]) rfl ?_
  by_cases hp1 : x1 = 0
  · have h := h.1 hp1
    rw [hp1]
    refine gk_W_s 1 (pc1 := 28) (l1 := [some (.ref 1), some (.int 0)]) (st1 := []) rfl ?_
    refine gk_W_s 1 (pc1 := 29) (l1 := [some (.ref 1), some (.int 0)]) (st1 := [.ref 1]) rfl ?_
    refine gk_W_h (i := .getfield 19) 32 rfl rfl (h_gr (a := 0) (k := 1) (m := 4) hS ly_0 rfl) rfl ?_
    obtain ⟨v3, hE2, h⟩ := h
    refine gk_W_c (i := .invokestatic 153) [.int v3] 35 rfl rfl rfl hE2 rfl rfl ?_
    refine gk_W_s 1 (pc1 := 36) (l1 := [some (.ref 1), some (.int 0)]) (st1 := [.int 0, .int v3]) rfl ?_
    refine gk_W_c (i := .invokestatic 158) [.int (f_36 v3 0)] 39 rfl rfl rfl (f_36_E v3 0) rfl rfl ?_
    refine gk_W_b 1 (¬ (f_36 v3 0) = 0) (t := 46) (e := 42) (l1 := [some (.ref 1), some (.int 0)]) (st1 := []) rfl (fun hp4 => ?_) (fun hp4 => ?_)
    · have h := h.1 hp4
      refine gk_W_s 1 (pc1 := 47) (l1 := [some (.ref 1), some (.int 0)]) (st1 := [.int 0]) rfl ?_
      obtain ⟨rfl, rfl⟩ := h
      exact gk_W_r (i := .ireturn) rfl rfl rfl
    · have h := h.2 hp4
      refine gk_W_s 2 (pc1 := 47) (l1 := [some (.ref 1), some (.int 0)]) (st1 := [.int 1]) rfl ?_
      obtain ⟨rfl, rfl⟩ := h
      exact gk_W_r (i := .ireturn) rfl rfl rfl
  have h := h.2
  by_cases hp5 : x1 = 1
  · have h := h.1 hp5
    rw [hp5]
    refine gk_W_s 1 (pc1 := 48) (l1 := [some (.ref 1), some (.int 1)]) (st1 := []) rfl ?_
    refine gk_W_s 1 (pc1 := 49) (l1 := [some (.ref 1), some (.int 1)]) (st1 := [.ref 1]) rfl ?_
    refine gk_W_h (i := .getfield 23) 52 rfl rfl (h_gr (a := 0) (k := 2) (m := 6) hS ly_0 rfl) rfl ?_
    refine gk_W_s 1 (pc1 := 53) (l1 := [some (.ref 1), some (.int 1)]) (st1 := [.ref 1, .ref 6]) rfl ?_
    refine gk_W_h (i := .getfield 19) 56 rfl rfl (h_gr (a := 0) (k := 1) (m := 4) hS ly_0 rfl) rfl ?_
    obtain ⟨w7, hE6, hS8, h⟩ := h
    refine gk_W_c (i := .invokevirtual 132) [] 59 rfl rfl (c_v (a := 5) hS ly_5 rfl rfl (Nat.le_of_ble_eq_true rfl)) hE6 rfl rfl ?_
    refine gk_W_s 1 (pc1 := 60) (l1 := [some (.ref 1), some (.int 1)]) (st1 := [.ref 1]) rfl ?_
    refine gk_W_h (i := .getfield 29) 63 rfl rfl (h_gr (a := 0) (k := 3) (m := 8) hS8 ly_0 rfl) rfl ?_
    refine gk_W_s 1 (pc1 := 64) (l1 := [some (.ref 1), some (.int 1)]) (st1 := [.ref 1, .ref 8]) rfl ?_
    refine gk_W_h (i := .getfield 23) 67 rfl rfl (h_gr (a := 0) (k := 2) (m := 6) hS8 ly_0 rfl) rfl ?_
    obtain ⟨v10, w11, hE9, hS12, h⟩ := h
    refine gk_W_c (i := .invokevirtual 136) [.int v10] 70 rfl rfl (c_v (a := 7) hS8 ly_7 rfl rfl (Nat.le_of_ble_eq_true rfl)) hE9 rfl rfl ?_
    refine gk_W_s 2 (pc1 := 72) (l1 := [some (.ref 1), some (.int 1)]) (st1 := [.ref 1]) rfl ?_
    refine gk_W_h (i := .getfield 52) 75 rfl rfl (h_gr (a := 0) (k := 6) (m := 18) hS12 ly_0 rfl) rfl ?_
    refine gk_W_s 1 (pc1 := 76) (l1 := [some (.ref 1), some (.int 1)]) (st1 := [.ref 1, .ref 18]) rfl ?_
    refine gk_W_h (i := .getfield 23) 79 rfl rfl (h_gr (a := 0) (k := 2) (m := 6) hS12 ly_0 rfl) rfl ?_
    obtain ⟨v14, w15, hE13, hS16, h⟩ := h
    refine gk_W_c (i := .invokevirtual 162) [.int v14] 82 rfl rfl (c_v (a := 17) hS12 ly_17 rfl rfl (Nat.le_of_ble_eq_true rfl)) hE13 rfl rfl ?_
    obtain ⟨hf, rfl, rfl⟩ := h
    exact gk_W_r (i := .ireturn) rfl rfl (gk_ret_f hf)
  have h := h.2
  by_cases hp17 : x1 = 2
  · have h := h.1 hp17
    rw [hp17]
    refine gk_W_s 1 (pc1 := 83) (l1 := [some (.ref 1), some (.int 2)]) (st1 := []) rfl ?_
    refine gk_W_s 1 (pc1 := 84) (l1 := [some (.ref 1), some (.int 2)]) (st1 := [.ref 1]) rfl ?_
    refine gk_W_h (i := .getfield 19) 87 rfl rfl (h_gr (a := 0) (k := 1) (m := 4) hS ly_0 rfl) rfl ?_
    obtain ⟨v19, hE18, h⟩ := h
    refine gk_W_c (i := .invokestatic 165) [.int v19] 90 rfl rfl rfl hE18 rfl rfl ?_
    refine gk_W_s 1 (pc1 := 91) (l1 := [some (.ref 1), some (.int 2)]) (st1 := [.int 0, .int v19]) rfl ?_
    refine gk_W_c (i := .invokestatic 158) [.int (f_36 v19 0)] 94 rfl rfl rfl (f_36_E v19 0) rfl rfl ?_
    obtain ⟨hf, rfl, rfl⟩ := h
    exact gk_W_r (i := .ireturn) rfl rfl (gk_ret_f hf)
  have h := h.2
  have hz20 := gk_sw3 hp1 hp5 hp17
  have h := h hz20
  refine gk_W_sd (t := 95) rfl hz20 rfl ?_
  refine gk_W_s 1 (pc1 := 96) (l1 := [some (.ref 1), some (.int x1)]) (st1 := [.int 0]) rfl ?_
  obtain ⟨rfl, rfl⟩ := h
  exact gk_W_r (i := .ireturn) rfl rfl rfl
/-- GrammarDeskModel.language(I)Z, at 0 -/
theorem sg_192_0 {d : Nat} {rr : List gk_S} {w w' : gk_Wd} {r : gk_Res} (hS : gk_Sh rr w) (x1 : Int32)
    (h : ((x1 < 0 → (r = .inl (some (.int 0)) ∧ w' = w_si w 26 0 0)) ∧ (¬ (x1 < 0) → ((x1 ≤ 2 → ((¬ x1 = 2 → (∃ (w5 : gk_Wd), gk_E d 162 [.ref 27] (w_si w 26 0 0) (.inl none) w5 ∧ gk_Sh rr w5 ∧ ((¬ x1 = 0 → ((¬ ((w_a w5 36).getD 0 0) = 0 → (∃ (w10 : gk_Wd), gk_E d 147 [.ref 27] w5 (.inl none) w10 ∧ gk_Sh rr w10 ∧ (∃ (v13 : Int32), ∃ (w14 : gk_Wd), gk_E d 161 [.ref 27] w10 (.inl (some (.int v13))) w14 ∧ gk_Sh rr w14 ∧ (∃ (v17 : Int32), ∃ (w18 : gk_Wd), gk_E d 193 [.ref 27] w14 (.inl (some (.int v17))) w18 ∧ gk_Sh rr w18 ∧ (∃ (w21 : gk_Wd), gk_E d 174 [.ref 27] w18 (.inl none) w21 ∧ gk_Sh rr w21 ∧ ((¬ v17 = 0 → (r = .inl (some (.int 0)) ∧ w' = w21)) ∧ (¬ ¬ v17 = 0 → (r = .inl (some (.int 1)) ∧ w' = w21)))))))) ∧ (¬ ¬ ((w_a w5 36).getD 0 0) = 0 → (r = .inl (some (.int 1)) ∧ w' = w5)))) ∧ (¬ ¬ x1 = 0 → ((¬ ((w_a w5 36).getD 0 0) = 0 → (r = .inl (some (.int 0)) ∧ w' = w5)) ∧ (¬ ¬ ((w_a w5 36).getD 0 0) = 0 → (r = .inl (some (.int 1)) ∧ w' = w5))))))) ∧ (¬ ¬ x1 = 2 → (∃ (w26 : gk_Wd), gk_E d 169 [.ref 27] (w_si w 26 0 0) (.inl none) w26 ∧ gk_Sh rr w26 ∧ (fits .boolean (.int ((w_a w26 38).getD 0 0)) = true ∧ r = .inl (some (.int ((w_a w26 38).getD 0 0))) ∧ w' = w26))))) ∧ (¬ (x1 ≤ 2) → (r = .inl (some (.int 0)) ∧ w' = w_si w 26 0 0)))))) :
    gk_W none (d + 1) 192 0 [some (.ref 27), some (.int x1), none] [] w r w' := by
  refine gk_W_s 2 (pc1 := 2) (l1 := [some (.ref 27), some (.int x1), none]) (st1 := [.int 0, .ref 27]) rfl ?_
  refine gk_W_h (i := .putfield 97) 5 rfl rfl (h_pi (a := 26) (k := 0) (x := 0) hS ly_26 rfl rfl) rfl ?_
  refine gk_W_b 2 (x1 < 0) (t := 14) (e := 9) (l1 := [some (.ref 27), some (.int x1), none]) (st1 := []) rfl (fun hp1 => ?_) (fun hp1 => ?_)
  · have h := h.1 hp1
    refine gk_W_s 1 (pc1 := 15) (l1 := [some (.ref 27), some (.int x1), none]) (st1 := [.int 0]) rfl ?_
    obtain ⟨rfl, rfl⟩ := h
    exact gk_W_r (i := .ireturn) rfl rfl rfl
  · have h := h.2 hp1
    refine gk_W_b 3 (x1 ≤ 2) (t := 16) (e := 14) (l1 := [some (.ref 27), some (.int x1), none]) (st1 := []) rfl (fun hp2 => ?_) (fun hp2 => ?_)
    · have h := h.1 hp2
      refine gk_W_b 3 (¬ x1 = 2) (t := 32) (e := 21) (l1 := [some (.ref 27), some (.int x1), none]) (st1 := []) rfl (fun hp3 => ?_) (fun hp3 => ?_)
      · have h := h.1 hp3
        refine gk_W_s 1 (pc1 := 33) (l1 := [some (.ref 27), some (.int x1), none]) (st1 := [.ref 27]) rfl ?_
        obtain ⟨w5, hE4, hS6, h⟩ := h
        refine gk_W_c (i := .invokevirtual 174) [] 36 rfl rfl (c_v (a := 26) (sh_si hS ly_26 (k := 0) rfl 0) ly_26 rfl rfl (Nat.le_of_ble_eq_true rfl)) hE4 rfl rfl ?_
        refine gk_W_b 2 (¬ x1 = 0) (t := 55) (e := 40) (l1 := [some (.ref 27), some (.int x1), none]) (st1 := []) rfl (fun hp7 => ?_) (fun hp7 => ?_)
        · have h := h.1 hp7
          refine gk_W_s 1 (pc1 := 56) (l1 := [some (.ref 27), some (.int x1), none]) (st1 := [.ref 27]) rfl ?_
          refine gk_W_h (i := .getfield 43) 59 rfl rfl (h_gr (a := 26) (k := 17) (m := 37) hS6 ly_26 rfl) rfl ?_
          refine gk_W_s 1 (pc1 := 60) (l1 := [some (.ref 27), some (.int x1), none]) (st1 := [.int 0, .ref 37]) rfl ?_
          refine gk_W_h (i := .baload) 61 rfl rfl (h_al (a := 36) (scr := none) hS6 ly_36 rfl) rfl ?_
          refine gk_W_b 1 (¬ ((w_a w5 36).getD 0 0) = 0) (t := 66) (e := 64) (l1 := [some (.ref 27), some (.int x1), none]) (st1 := []) rfl (fun hp8 => ?_) (fun hp8 => ?_)
          · have h := h.1 hp8
            refine gk_W_s 1 (pc1 := 67) (l1 := [some (.ref 27), some (.int x1), none]) (st1 := [.ref 27]) rfl ?_
            obtain ⟨w10, hE9, hS11, h⟩ := h
            refine gk_W_c (i := .invokevirtual 152) [] 70 rfl rfl (c_v (a := 26) hS6 ly_26 rfl rfl (Nat.le_of_ble_eq_true rfl)) hE9 rfl rfl ?_
            refine gk_W_s 1 (pc1 := 71) (l1 := [some (.ref 27), some (.int x1), none]) (st1 := [.ref 27]) rfl ?_
            obtain ⟨v13, w14, hE12, hS15, h⟩ := h
            refine gk_W_c (i := .invokevirtual 183) [.int v13] 74 rfl rfl (c_v (a := 26) hS11 ly_26 rfl rfl (Nat.le_of_ble_eq_true rfl)) hE12 rfl rfl ?_
            refine gk_W_s 2 (pc1 := 76) (l1 := [some (.ref 27), some (.int x1), none]) (st1 := [.ref 27]) rfl ?_
            obtain ⟨v17, w18, hE16, hS19, h⟩ := h
            refine gk_W_c (i := .invokevirtual 252) [.int v17] 79 rfl rfl (c_v (a := 26) hS15 ly_26 rfl rfl (Nat.le_of_ble_eq_true rfl)) hE16 rfl rfl ?_
            refine gk_W_s 2 (pc1 := 81) (l1 := [some (.ref 27), some (.int x1), some (.int v17)]) (st1 := [.ref 27]) rfl ?_
            obtain ⟨w21, hE20, hS22, h⟩ := h
            refine gk_W_c (i := .invokevirtual 127) [] 84 rfl rfl (c_v (a := 26) hS19 ly_26 rfl rfl (Nat.le_of_ble_eq_true rfl)) hE20 rfl rfl ?_
            refine gk_W_b 2 (¬ v17 = 0) (t := 92) (e := 88) (l1 := [some (.ref 27), some (.int x1), some (.int v17)]) (st1 := []) rfl (fun hp23 => ?_) (fun hp23 => ?_)
            · have h := h.1 hp23
              refine gk_W_s 1 (pc1 := 93) (l1 := [some (.ref 27), some (.int x1), some (.int v17)]) (st1 := [.int 0]) rfl ?_
              obtain ⟨rfl, rfl⟩ := h
              exact gk_W_r (i := .ireturn) rfl rfl rfl
            · have h := h.2 hp23
              refine gk_W_s 2 (pc1 := 93) (l1 := [some (.ref 27), some (.int x1), some (.int v17)]) (st1 := [.int 1]) rfl ?_
              obtain ⟨rfl, rfl⟩ := h
              exact gk_W_r (i := .ireturn) rfl rfl rfl
          · have h := h.2 hp8
            refine gk_W_s 1 (pc1 := 65) (l1 := [some (.ref 27), some (.int x1), none]) (st1 := [.int 1]) rfl ?_
            obtain ⟨rfl, rfl⟩ := h
            exact gk_W_r (i := .ireturn) rfl rfl rfl
        · have h := h.2 hp7
          refine gk_W_s 1 (pc1 := 41) (l1 := [some (.ref 27), some (.int x1), none]) (st1 := [.ref 27]) rfl ?_
          refine gk_W_h (i := .getfield 43) 44 rfl rfl (h_gr (a := 26) (k := 17) (m := 37) hS6 ly_26 rfl) rfl ?_
          refine gk_W_s 1 (pc1 := 45) (l1 := [some (.ref 27), some (.int x1), none]) (st1 := [.int 0, .ref 37]) rfl ?_
          refine gk_W_h (i := .baload) 46 rfl rfl (h_al (a := 36) (scr := none) hS6 ly_36 rfl) rfl ?_
          refine gk_W_b 1 (¬ ((w_a w5 36).getD 0 0) = 0) (t := 53) (e := 49) (l1 := [some (.ref 27), some (.int x1), none]) (st1 := []) rfl (fun hp24 => ?_) (fun hp24 => ?_)
          · have h := h.1 hp24
            refine gk_W_s 1 (pc1 := 54) (l1 := [some (.ref 27), some (.int x1), none]) (st1 := [.int 0]) rfl ?_
            obtain ⟨rfl, rfl⟩ := h
            exact gk_W_r (i := .ireturn) rfl rfl rfl
          · have h := h.2 hp24
            refine gk_W_s 2 (pc1 := 54) (l1 := [some (.ref 27), some (.int x1), none]) (st1 := [.int 1]) rfl ?_
            obtain ⟨rfl, rfl⟩ := h
            exact gk_W_r (i := .ireturn) rfl rfl rfl
      · have h := h.2 hp3
        refine gk_W_s 1 (pc1 := 22) (l1 := [some (.ref 27), some (.int x1), none]) (st1 := [.ref 27]) rfl ?_
        obtain ⟨w26, hE25, hS27, h⟩ := h
        refine gk_W_c (i := .invokevirtual 186) [] 25 rfl rfl (c_v (a := 26) (sh_si hS ly_26 (k := 0) rfl 0) ly_26 rfl rfl (Nat.le_of_ble_eq_true rfl)) hE25 rfl rfl ?_
        refine gk_W_s 1 (pc1 := 26) (l1 := [some (.ref 27), some (.int x1), none]) (st1 := [.ref 27]) rfl ?_
        refine gk_W_h (i := .getfield 49) 29 rfl rfl (h_gr (a := 26) (k := 19) (m := 39) hS27 ly_26 rfl) rfl ?_
        refine gk_W_s 1 (pc1 := 30) (l1 := [some (.ref 27), some (.int x1), none]) (st1 := [.int 0, .ref 39]) rfl ?_
        refine gk_W_h (i := .baload) 31 rfl rfl (h_al (a := 38) (scr := none) hS27 ly_38 rfl) rfl ?_
        obtain ⟨hf, rfl, rfl⟩ := h
        exact gk_W_r (i := .ireturn) rfl rfl (gk_ret_f hf)
    · have h := h.2 hp2
      refine gk_W_s 1 (pc1 := 15) (l1 := [some (.ref 27), some (.int x1), none]) (st1 := [.int 0]) rfl ?_
      obtain ⟨rfl, rfl⟩ := h
      exact gk_W_r (i := .ireturn) rfl rfl rfl
/-- GrammarDesk.first(C)I, at 0 -/
theorem sg_51_0 {d : Nat} {rr : List gk_S} {w w' : gk_Wd} {r : gk_Res} (hS : gk_Sh rr w) (x1 : Int32)
    (h : ((¬ (f_52 x1) = 0 → (∃ (w3 : gk_Wd), gk_E d 53 [.ref 15, .ref 4] w (.inl none) w3 ∧ gk_Sh rr w3 ∧ ((gk_out (x1 - 65) 16 = false) ∧ (r = .inl (some (.int (f_60 w3 (x1 - 65)))) ∧ w' = w3)))) ∧ (¬ ¬ (f_52 x1) = 0 → (r = .inl (some (.int 0)) ∧ w' = w)))) :
    gk_W none (d + 1) 51 0 [some (.ref 1), some (.int x1)] [] w r w' := by
  refine gk_W_s 1 (pc1 := 1) (l1 := [some (.ref 1), some (.int x1)]) (st1 := [.int x1]) rfl ?_
  refine gk_W_c (i := .invokestatic 168) [.int (f_52 x1)] 4 rfl rfl rfl (f_52_E x1) rfl rfl ?_
  refine gk_W_b 1 (¬ (f_52 x1) = 0) (t := 9) (e := 7) (l1 := [some (.ref 1), some (.int x1)]) (st1 := []) rfl (fun hp1 => ?_) (fun hp1 => ?_)
  · have h := h.1 hp1
    refine gk_W_s 1 (pc1 := 10) (l1 := [some (.ref 1), some (.int x1)]) (st1 := [.ref 1]) rfl ?_
    refine gk_W_h (i := .getfield 45) 13 rfl rfl (h_gr (a := 0) (k := 5) (m := 15) hS ly_0 rfl) rfl ?_
    refine gk_W_s 1 (pc1 := 14) (l1 := [some (.ref 1), some (.int x1)]) (st1 := [.ref 1, .ref 15]) rfl ?_
    refine gk_W_h (i := .getfield 19) 17 rfl rfl (h_gr (a := 0) (k := 1) (m := 4) hS ly_0 rfl) rfl ?_
    obtain ⟨w3, hE2, hS4, h⟩ := h
    refine gk_W_c (i := .invokevirtual 171) [] 20 rfl rfl (c_v (a := 14) hS ly_14 rfl rfl (Nat.le_of_ble_eq_true rfl)) hE2 rfl rfl ?_
    refine gk_W_s 1 (pc1 := 21) (l1 := [some (.ref 1), some (.int x1)]) (st1 := [.ref 1]) rfl ?_
    refine gk_W_h (i := .getfield 45) 24 rfl rfl (h_gr (a := 0) (k := 5) (m := 15) hS4 ly_0 rfl) rfl ?_
    refine gk_W_s 3 (pc1 := 28) (l1 := [some (.ref 1), some (.int x1)]) (st1 := [.int (x1 - 65), .ref 15]) rfl ?_
    obtain ⟨hb5, h⟩ := h
    refine gk_W_c (i := .invokevirtual 174) [.int (f_60 w3 (x1 - 65))] 31 rfl rfl (c_v (a := 14) hS4 ly_14 rfl rfl (Nat.le_of_ble_eq_true rfl)) (f_60_E hS4 (x1 - 65) hb5) rfl rfl ?_
    obtain ⟨rfl, rfl⟩ := h
    exact gk_W_r (i := .ireturn) rfl rfl rfl
  · have h := h.2 hp1
    refine gk_W_s 1 (pc1 := 8) (l1 := [some (.ref 1), some (.int x1)]) (st1 := [.int 0]) rfl ?_
    obtain ⟨rfl, rfl⟩ := h
    exact gk_W_r (i := .ireturn) rfl rfl rfl
/-- GrammarDeskModel.first(C)I, at 0 -/
theorem sg_195_0 {d : Nat} {rr : List gk_S} {w w' : gk_Wd} {r : gk_Res} (hS : gk_Sh rr w) (x1 : Int32)
    (h : ((x1 < 65 → (r = .inl (some (.int 0)) ∧ w' = w_si w 26 0 0)) ∧ (¬ (x1 < 65) → ((x1 ≤ 80 → (∃ (w4 : gk_Wd), gk_E d 196 [.ref 27] (w_si w 26 0 0) (.inl none) w4 ∧ gk_Sh rr w4 ∧ (gk_out (x1 - 65) 16 = false ∧ (r = .inl (some (.int ((w_a w4 41).getD (x1 - 65).toNatClampNeg 0))) ∧ w' = w4)))) ∧ (¬ (x1 ≤ 80) → (r = .inl (some (.int 0)) ∧ w' = w_si w 26 0 0)))))) :
    gk_W none (d + 1) 195 0 [some (.ref 27), some (.int x1)] [] w r w' := by
  refine gk_W_s 2 (pc1 := 2) (l1 := [some (.ref 27), some (.int x1)]) (st1 := [.int 0, .ref 27]) rfl ?_
  refine gk_W_h (i := .putfield 97) 5 rfl rfl (h_pi (a := 26) (k := 0) (x := 0) hS ly_26 rfl rfl) rfl ?_
  refine gk_W_b 3 (x1 < 65) (t := 17) (e := 11) (l1 := [some (.ref 27), some (.int x1)]) (st1 := []) rfl (fun hp1 => ?_) (fun hp1 => ?_)
  · have h := h.1 hp1
    refine gk_W_s 1 (pc1 := 18) (l1 := [some (.ref 27), some (.int x1)]) (st1 := [.int 0]) rfl ?_
    obtain ⟨rfl, rfl⟩ := h
    exact gk_W_r (i := .ireturn) rfl rfl rfl
  · have h := h.2 hp1
    refine gk_W_b 3 (x1 ≤ 80) (t := 19) (e := 17) (l1 := [some (.ref 27), some (.int x1)]) (st1 := []) rfl (fun hp2 => ?_) (fun hp2 => ?_)
    · have h := h.1 hp2
      refine gk_W_s 1 (pc1 := 20) (l1 := [some (.ref 27), some (.int x1)]) (st1 := [.ref 27]) rfl ?_
      obtain ⟨w4, hE3, hS5, h⟩ := h
      refine gk_W_c (i := .invokevirtual 261) [] 23 rfl rfl (c_v (a := 26) (sh_si hS ly_26 (k := 0) rfl 0) ly_26 rfl rfl (Nat.le_of_ble_eq_true rfl)) hE3 rfl rfl ?_
      refine gk_W_s 1 (pc1 := 24) (l1 := [some (.ref 27), some (.int x1)]) (st1 := [.ref 27]) rfl ?_
      refine gk_W_h (i := .getfield 58) 27 rfl rfl (h_gr (a := 26) (k := 22) (m := 42) hS5 ly_26 rfl) rfl ?_
      refine gk_W_s 3 (pc1 := 31) (l1 := [some (.ref 27), some (.int x1)]) (st1 := [.int (x1 - 65), .ref 42]) rfl ?_
      obtain ⟨hb6, h⟩ := h
      refine gk_W_h (i := .iaload) 32 rfl rfl (h_al (a := 41) (scr := none) hS5 ly_41 hb6) rfl ?_
      obtain ⟨rfl, rfl⟩ := h
      exact gk_W_r (i := .ireturn) rfl rfl rfl
    · have h := h.2 hp2
      refine gk_W_s 1 (pc1 := 18) (l1 := [some (.ref 27), some (.int x1)]) (st1 := [.int 0]) rfl ?_
      obtain ⟨rfl, rfl⟩ := h
      exact gk_W_r (i := .ireturn) rfl rfl rfl
/-- GrammarDesk.follow(C)I, at 0 -/
theorem sg_61_0 {d : Nat} {rr : List gk_S} {w w' : gk_Wd} {r : gk_Res} (hS : gk_Sh rr w) (x1 : Int32)
    (h : ((¬ (f_52 x1) = 0 → (∃ (w3 : gk_Wd), gk_E d 53 [.ref 15, .ref 4] w (.inl none) w3 ∧ gk_Sh rr w3 ∧ ((gk_out (x1 - 65) 16 = false) ∧ (r = .inl (some (.int (f_62 w3 (x1 - 65)))) ∧ w' = w3)))) ∧ (¬ ¬ (f_52 x1) = 0 → (r = .inl (some (.int 0)) ∧ w' = w)))) :
    gk_W none (d + 1) 61 0 [some (.ref 1), some (.int x1)] [] w r w' := by
  refine gk_W_s 1 (pc1 := 1) (l1 := [some (.ref 1), some (.int x1)]) (st1 := [.int x1]) rfl ?_
  refine gk_W_c (i := .invokestatic 168) [.int (f_52 x1)] 4 rfl rfl rfl (f_52_E x1) rfl rfl ?_
  refine gk_W_b 1 (¬ (f_52 x1) = 0) (t := 9) (e := 7) (l1 := [some (.ref 1), some (.int x1)]) (st1 := []) rfl (fun hp1 => ?_) (fun hp1 => ?_)
  · have h := h.1 hp1
    refine gk_W_s 1 (pc1 := 10) (l1 := [some (.ref 1), some (.int x1)]) (st1 := [.ref 1]) rfl ?_
    refine gk_W_h (i := .getfield 45) 13 rfl rfl (h_gr (a := 0) (k := 5) (m := 15) hS ly_0 rfl) rfl ?_
    refine gk_W_s 1 (pc1 := 14) (l1 := [some (.ref 1), some (.int x1)]) (st1 := [.ref 1, .ref 15]) rfl ?_
    refine gk_W_h (i := .getfield 19) 17 rfl rfl (h_gr (a := 0) (k := 1) (m := 4) hS ly_0 rfl) rfl ?_
    obtain ⟨w3, hE2, hS4, h⟩ := h
    refine gk_W_c (i := .invokevirtual 171) [] 20 rfl rfl (c_v (a := 14) hS ly_14 rfl rfl (Nat.le_of_ble_eq_true rfl)) hE2 rfl rfl ?_
    refine gk_W_s 1 (pc1 := 21) (l1 := [some (.ref 1), some (.int x1)]) (st1 := [.ref 1]) rfl ?_
    refine gk_W_h (i := .getfield 45) 24 rfl rfl (h_gr (a := 0) (k := 5) (m := 15) hS4 ly_0 rfl) rfl ?_
    refine gk_W_s 3 (pc1 := 28) (l1 := [some (.ref 1), some (.int x1)]) (st1 := [.int (x1 - 65), .ref 15]) rfl ?_
    obtain ⟨hb5, h⟩ := h
    refine gk_W_c (i := .invokevirtual 177) [.int (f_62 w3 (x1 - 65))] 31 rfl rfl (c_v (a := 14) hS4 ly_14 rfl rfl (Nat.le_of_ble_eq_true rfl)) (f_62_E hS4 (x1 - 65) hb5) rfl rfl ?_
    obtain ⟨rfl, rfl⟩ := h
    exact gk_W_r (i := .ireturn) rfl rfl rfl
  · have h := h.2 hp1
    refine gk_W_s 1 (pc1 := 8) (l1 := [some (.ref 1), some (.int x1)]) (st1 := [.int 0]) rfl ?_
    obtain ⟨rfl, rfl⟩ := h
    exact gk_W_r (i := .ireturn) rfl rfl rfl
/-- GrammarDeskModel.follow(C)I, at 0 -/
theorem sg_199_0 {d : Nat} {rr : List gk_S} {w w' : gk_Wd} {r : gk_Res} (hS : gk_Sh rr w) (x1 : Int32)
    (h : ((x1 < 65 → (r = .inl (some (.int 0)) ∧ w' = w_si w 26 0 0)) ∧ (¬ (x1 < 65) → ((x1 ≤ 80 → (∃ (w4 : gk_Wd), gk_E d 200 [.ref 27] (w_si w 26 0 0) (.inl none) w4 ∧ gk_Sh rr w4 ∧ (gk_out (x1 - 65) 16 = false ∧ (r = .inl (some (.int ((w_a w4 42).getD (x1 - 65).toNatClampNeg 0))) ∧ w' = w4)))) ∧ (¬ (x1 ≤ 80) → (r = .inl (some (.int 0)) ∧ w' = w_si w 26 0 0)))))) :
    gk_W none (d + 1) 199 0 [some (.ref 27), some (.int x1)] [] w r w' := by
  refine gk_W_s 2 (pc1 := 2) (l1 := [some (.ref 27), some (.int x1)]) (st1 := [.int 0, .ref 27]) rfl ?_
  refine gk_W_h (i := .putfield 97) 5 rfl rfl (h_pi (a := 26) (k := 0) (x := 0) hS ly_26 rfl rfl) rfl ?_
  refine gk_W_b 3 (x1 < 65) (t := 17) (e := 11) (l1 := [some (.ref 27), some (.int x1)]) (st1 := []) rfl (fun hp1 => ?_) (fun hp1 => ?_)
  · have h := h.1 hp1
    refine gk_W_s 1 (pc1 := 18) (l1 := [some (.ref 27), some (.int x1)]) (st1 := [.int 0]) rfl ?_
    obtain ⟨rfl, rfl⟩ := h
    exact gk_W_r (i := .ireturn) rfl rfl rfl
  · have h := h.2 hp1
    refine gk_W_b 3 (x1 ≤ 80) (t := 19) (e := 17) (l1 := [some (.ref 27), some (.int x1)]) (st1 := []) rfl (fun hp2 => ?_) (fun hp2 => ?_)
    · have h := h.1 hp2
      refine gk_W_s 1 (pc1 := 20) (l1 := [some (.ref 27), some (.int x1)]) (st1 := [.ref 27]) rfl ?_
      obtain ⟨w4, hE3, hS5, h⟩ := h
      refine gk_W_c (i := .invokevirtual 264) [] 23 rfl rfl (c_v (a := 26) (sh_si hS ly_26 (k := 0) rfl 0) ly_26 rfl rfl (Nat.le_of_ble_eq_true rfl)) hE3 rfl rfl ?_
      refine gk_W_s 1 (pc1 := 24) (l1 := [some (.ref 27), some (.int x1)]) (st1 := [.ref 27]) rfl ?_
      refine gk_W_h (i := .getfield 61) 27 rfl rfl (h_gr (a := 26) (k := 23) (m := 43) hS5 ly_26 rfl) rfl ?_
      refine gk_W_s 3 (pc1 := 31) (l1 := [some (.ref 27), some (.int x1)]) (st1 := [.int (x1 - 65), .ref 43]) rfl ?_
      obtain ⟨hb6, h⟩ := h
      refine gk_W_h (i := .iaload) 32 rfl rfl (h_al (a := 42) (scr := none) hS5 ly_42 hb6) rfl ?_
      obtain ⟨rfl, rfl⟩ := h
      exact gk_W_r (i := .ireturn) rfl rfl rfl
    · have h := h.2 hp2
      refine gk_W_s 1 (pc1 := 18) (l1 := [some (.ref 27), some (.int x1)]) (st1 := [.int 0]) rfl ?_
      obtain ⟨rfl, rfl⟩ := h
      exact gk_W_r (i := .ireturn) rfl rfl rfl
/-- GrammarDesk$Trial.add(I)Z, at 0 -/
theorem sg_69_0 {d : Nat} {rr : List gk_S} {w w' : gk_Wd} {r : gk_Res} (hS : gk_Sh rr w) (x1 : Int32)
    (h : (((w_i w 19 1) < 10 → (gk_out (w_i w 19 1) 10 = false ∧ (∃ (w4 : gk_Wd), gk_E d 15 [.ref 20] (w_si (w_sa w 20 ((w_a w 20).set (w_i w 19 1).toNatClampNeg x1)) 19 1 ((w_i (w_sa w 20 ((w_a w 20).set (w_i w 19 1).toNatClampNeg x1)) 19 1) + 1)) (.inl none) w4 ∧ gk_Sh rr w4 ∧ (r = .inl (some (.int 1)) ∧ w' = w4)))) ∧ (¬ ((w_i w 19 1) < 10) → (r = .inl (some (.int 0)) ∧ w' = w)))) :
    gk_W none (d + 1) 69 0 [some (.ref 20), some (.int x1)] [] w r w' := by
  refine gk_W_s 1 (pc1 := 1) (l1 := [some (.ref 20), some (.int x1)]) (st1 := [.ref 20]) rfl ?_
  refine gk_W_h (i := .getfield 17) 4 rfl rfl (h_gi (a := 19) (k := 1) hS ly_19 rfl) rfl ?_
  refine gk_W_b 2 ((w_i w 19 1) < 10) (t := 11) (e := 9) (l1 := [some (.ref 20), some (.int x1)]) (st1 := []) rfl (fun hp1 => ?_) (fun hp1 => ?_)
  · have h := h.1 hp1
    refine gk_W_s 1 (pc1 := 12) (l1 := [some (.ref 20), some (.int x1)]) (st1 := [.ref 20]) rfl ?_
    refine gk_W_h (i := .getfield 13) 15 rfl rfl (h_gr (a := 19) (k := 0) (m := 21) hS ly_19 rfl) rfl ?_
    refine gk_W_s 1 (pc1 := 16) (l1 := [some (.ref 20), some (.int x1)]) (st1 := [.ref 20, .ref 21]) rfl ?_
    refine gk_W_h (i := .getfield 17) 19 rfl rfl (h_gi (a := 19) (k := 1) hS ly_19 rfl) rfl ?_
    refine gk_W_s 1 (pc1 := 20) (l1 := [some (.ref 20), some (.int x1)]) (st1 := [.int x1, .int (w_i w 19 1), .ref 21]) rfl ?_
    obtain ⟨hb2, h⟩ := h
    refine gk_W_h (i := .iastore) 21 rfl rfl (h_as (a := 20) (t := 0) hS ly_20 hb2 rfl) rfl ?_
    refine gk_W_s 2 (pc1 := 23) (l1 := [some (.ref 20), some (.int x1)]) (st1 := [.ref 20, .ref 20]) rfl ?_
    refine gk_W_h (i := .getfield 17) 26 rfl rfl (h_gi (a := 19) (k := 1) (sh_as hS ly_20 ((w_i w 19 1).toNatClampNeg) x1) ly_19 rfl) rfl ?_
    refine gk_W_s 2 (pc1 := 28) (l1 := [some (.ref 20), some (.int x1)]) (st1 := [.int ((w_i (w_sa w 20 ((w_a w 20).set (w_i w 19 1).toNatClampNeg x1)) 19 1) + 1), .ref 20]) rfl ?_
    refine gk_W_h (i := .putfield 17) 31 rfl rfl (h_pi (a := 19) (k := 1) (x := (w_i (w_sa w 20 ((w_a w 20).set (w_i w 19 1).toNatClampNeg x1)) 19 1) + 1) (sh_as hS ly_20 ((w_i w 19 1).toNatClampNeg) x1) ly_19 rfl rfl) rfl ?_
    refine gk_W_s 1 (pc1 := 32) (l1 := [some (.ref 20), some (.int x1)]) (st1 := [.ref 20]) rfl ?_
    obtain ⟨w4, hE3, hS5, h⟩ := h
    refine gk_W_c (i := .invokevirtual 43) [] 35 rfl rfl (c_v (a := 19) (sh_si (sh_as hS ly_20 ((w_i w 19 1).toNatClampNeg) x1) ly_19 (k := 1) rfl ((w_i (w_sa w 20 ((w_a w 20).set (w_i w 19 1).toNatClampNeg x1)) 19 1) + 1)) ly_19 rfl rfl (Nat.le_of_ble_eq_true rfl)) hE3 rfl rfl ?_
    refine gk_W_s 1 (pc1 := 36) (l1 := [some (.ref 20), some (.int x1)]) (st1 := [.int 1]) rfl ?_
    obtain ⟨rfl, rfl⟩ := h
    exact gk_W_r (i := .ireturn) rfl rfl rfl
  · have h := h.2 hp1
    refine gk_W_s 1 (pc1 := 10) (l1 := [some (.ref 20), some (.int x1)]) (st1 := [.int 0]) rfl ?_
    obtain ⟨rfl, rfl⟩ := h
    exact gk_W_r (i := .ireturn) rfl rfl rfl
/-- GrammarDesk.feed(C)Z, at 0 -/
theorem sg_66_0 {d : Nat} {rr : List gk_S} {w w' : gk_Wd} {r : gk_Res} (hS : gk_Sh rr w) (x1 : Int32)
    (h : (((f_67 x1) = 0 → (r = .inl (some (.int 0)) ∧ w' = w)) ∧ (¬ ((f_67 x1) = 0) → (∃ (v3 : Int32), ∃ (w4 : gk_Wd), gk_E d 69 [.ref 20, .int (f_68 x1)] w (.inl (some (.int v3))) w4 ∧ gk_Sh rr w4 ∧ ((v3 = 0 → (r = .inl (some (.int 0)) ∧ w' = w4)) ∧ (¬ (v3 = 0) → (r = .inl (some (.int 1)) ∧ w' = w4))))))) :
    gk_W none (d + 1) 66 0 [some (.ref 1), some (.int x1)] [] w r w' := by
  refine gk_W_s 1 (pc1 := 1) (l1 := [some (.ref 1), some (.int x1)]) (st1 := [.int x1]) rfl ?_
  refine gk_W_c (i := .invokestatic 183) [.int (f_67 x1)] 4 rfl rfl rfl (f_67_E x1) rfl rfl ?_
  refine gk_W_b 1 ((f_67 x1) = 0) (t := 25) (e := 7) (l1 := [some (.ref 1), some (.int x1)]) (st1 := []) rfl (fun hp1 => ?_) (fun hp1 => ?_)
  · have h := h.1 hp1
    refine gk_W_s 1 (pc1 := 26) (l1 := [some (.ref 1), some (.int x1)]) (st1 := [.int 0]) rfl ?_
    obtain ⟨rfl, rfl⟩ := h
    exact gk_W_r (i := .ireturn) rfl rfl rfl
  · have h := h.2 hp1
    refine gk_W_s 1 (pc1 := 8) (l1 := [some (.ref 1), some (.int x1)]) (st1 := [.ref 1]) rfl ?_
    refine gk_W_h (i := .getfield 59) 11 rfl rfl (h_gr (a := 0) (k := 7) (m := 20) hS ly_0 rfl) rfl ?_
    refine gk_W_s 1 (pc1 := 12) (l1 := [some (.ref 1), some (.int x1)]) (st1 := [.int x1, .ref 20]) rfl ?_
    refine gk_W_c (i := .invokestatic 186) [.int (f_68 x1), .ref 20] 15 rfl rfl rfl (f_68_E x1) rfl rfl ?_
    obtain ⟨v3, w4, hE2, hS5, h⟩ := h
    refine gk_W_c (i := .invokevirtual 190) [.int v3] 18 rfl rfl (c_v (a := 19) hS ly_19 rfl rfl (Nat.le_of_ble_eq_true rfl)) hE2 rfl rfl ?_
    refine gk_W_b 1 (v3 = 0) (t := 25) (e := 21) (l1 := [some (.ref 1), some (.int x1)]) (st1 := []) rfl (fun hp6 => ?_) (fun hp6 => ?_)
    · have h := h.1 hp6
      refine gk_W_s 1 (pc1 := 26) (l1 := [some (.ref 1), some (.int x1)]) (st1 := [.int 0]) rfl ?_
      obtain ⟨rfl, rfl⟩ := h
      exact gk_W_r (i := .ireturn) rfl rfl rfl
    · have h := h.2 hp6
      refine gk_W_s 2 (pc1 := 26) (l1 := [some (.ref 1), some (.int x1)]) (st1 := [.int 1]) rfl ?_
      obtain ⟨rfl, rfl⟩ := h
      exact gk_W_r (i := .ireturn) rfl rfl rfl
/-- GrammarDeskModel.feed(C)Z, at 0 -/
theorem sg_203_0 {d : Nat} {rr : List gk_S} {w w' : gk_Wd} {r : gk_Res} (hS : gk_Sh rr w) (x1 : Int32)
    (h : ((x1 < 97 → (r = .inl (some (.int 0)) ∧ w' = w_si w 26 0 0)) ∧ (¬ (x1 < 97) → ((102 < x1 → (r = .inl (some (.int 0)) ∧ w' = w_si w 26 0 0)) ∧ (¬ (102 < x1) → ((¬ (w_i (w_si w 26 0 0) 26 24) = 10 → (gk_out (w_i (w_si w 26 0 0) 26 24) 10 = false ∧ (r = .inl (some (.int 1)) ∧ w' = w_si (w_si (w_sa (w_si w 26 0 0) 43 ((w_a (w_si w 26 0 0) 43).set (w_i (w_si w 26 0 0) 26 24).toNatClampNeg ((16 + x1) - 97))) 26 24 ((w_i (w_sa (w_si w 26 0 0) 43 ((w_a (w_si w 26 0 0) 43).set (w_i (w_si w 26 0 0) 26 24).toNatClampNeg ((16 + x1) - 97))) 26 24) + 1)) 26 28 0))) ∧ (¬ ¬ (w_i (w_si w 26 0 0) 26 24) = 10 → (r = .inl (some (.int 0)) ∧ w' = w_si w 26 0 0)))))))) :
    gk_W none d 203 0 [some (.ref 27), some (.int x1)] [] w r w' := by
  refine gk_W_s 2 (pc1 := 2) (l1 := [some (.ref 27), some (.int x1)]) (st1 := [.int 0, .ref 27]) rfl ?_
  refine gk_W_h (i := .putfield 97) 5 rfl rfl (h_pi (a := 26) (k := 0) (x := 0) hS ly_26 rfl rfl) rfl ?_
  refine gk_W_b 3 (x1 < 97) (t := 26) (e := 11) (l1 := [some (.ref 27), some (.int x1)]) (st1 := []) rfl (fun hp1 => ?_) (fun hp1 => ?_)
  · have h := h.1 hp1
    refine gk_W_s 1 (pc1 := 27) (l1 := [some (.ref 27), some (.int x1)]) (st1 := [.int 0]) rfl ?_
    obtain ⟨rfl, rfl⟩ := h
    exact gk_W_r (i := .ireturn) rfl rfl rfl
  · have h := h.2 hp1
    refine gk_W_b 3 (102 < x1) (t := 26) (e := 17) (l1 := [some (.ref 27), some (.int x1)]) (st1 := []) rfl (fun hp2 => ?_) (fun hp2 => ?_)
    · have h := h.1 hp2
      refine gk_W_s 1 (pc1 := 27) (l1 := [some (.ref 27), some (.int x1)]) (st1 := [.int 0]) rfl ?_
      obtain ⟨rfl, rfl⟩ := h
      exact gk_W_r (i := .ireturn) rfl rfl rfl
    · have h := h.2 hp2
      refine gk_W_s 1 (pc1 := 18) (l1 := [some (.ref 27), some (.int x1)]) (st1 := [.ref 27]) rfl ?_
      refine gk_W_h (i := .getfield 270) 21 rfl rfl (h_gi (a := 26) (k := 24) (sh_si hS ly_26 (k := 0) rfl 0) ly_26 rfl) rfl ?_
      refine gk_W_b 2 (¬ (w_i (w_si w 26 0 0) 26 24) = 10) (t := 28) (e := 26) (l1 := [some (.ref 27), some (.int x1)]) (st1 := []) rfl (fun hp3 => ?_) (fun hp3 => ?_)
      · have h := h.1 hp3
        refine gk_W_s 1 (pc1 := 29) (l1 := [some (.ref 27), some (.int x1)]) (st1 := [.ref 27]) rfl ?_
        refine gk_W_h (i := .getfield 64) 32 rfl rfl (h_gr (a := 26) (k := 25) (m := 44) (sh_si hS ly_26 (k := 0) rfl 0) ly_26 rfl) rfl ?_
        refine gk_W_s 1 (pc1 := 33) (l1 := [some (.ref 27), some (.int x1)]) (st1 := [.ref 27, .ref 44]) rfl ?_
        refine gk_W_h (i := .getfield 270) 36 rfl rfl (h_gi (a := 26) (k := 24) (sh_si hS ly_26 (k := 0) rfl 0) ly_26 rfl) rfl ?_
        refine gk_W_s 5 (pc1 := 43) (l1 := [some (.ref 27), some (.int x1)]) (st1 := [.int ((16 + x1) - 97), .int (w_i (w_si w 26 0 0) 26 24), .ref 44]) rfl ?_
        obtain ⟨hb4, h⟩ := h
        refine gk_W_h (i := .iastore) 44 rfl rfl (h_as (a := 43) (t := 0) (sh_si hS ly_26 (k := 0) rfl 0) ly_43 hb4 rfl) rfl ?_
        refine gk_W_s 2 (pc1 := 46) (l1 := [some (.ref 27), some (.int x1)]) (st1 := [.ref 27, .ref 27]) rfl ?_
        refine gk_W_h (i := .getfield 270) 49 rfl rfl (h_gi (a := 26) (k := 24) (sh_as (sh_si hS ly_26 (k := 0) rfl 0) ly_43 ((w_i (w_si w 26 0 0) 26 24).toNatClampNeg) ((16 + x1) - 97)) ly_26 rfl) rfl ?_
        refine gk_W_s 2 (pc1 := 51) (l1 := [some (.ref 27), some (.int x1)]) (st1 := [.int ((w_i (w_sa (w_si w 26 0 0) 43 ((w_a (w_si w 26 0 0) 43).set (w_i (w_si w 26 0 0) 26 24).toNatClampNeg ((16 + x1) - 97))) 26 24) + 1), .ref 27]) rfl ?_
        refine gk_W_h (i := .putfield 270) 54 rfl rfl (h_pi (a := 26) (k := 24) (x := (w_i (w_sa (w_si w 26 0 0) 43 ((w_a (w_si w 26 0 0) 43).set (w_i (w_si w 26 0 0) 26 24).toNatClampNeg ((16 + x1) - 97))) 26 24) + 1) (sh_as (sh_si hS ly_26 (k := 0) rfl 0) ly_43 ((w_i (w_si w 26 0 0) 26 24).toNatClampNeg) ((16 + x1) - 97)) ly_26 rfl rfl) rfl ?_
        refine gk_W_s 2 (pc1 := 56) (l1 := [some (.ref 27), some (.int x1)]) (st1 := [.int 0, .ref 27]) rfl ?_
        refine gk_W_h (i := .putfield 138) 59 rfl rfl (h_pi (a := 26) (k := 28) (x := 0) (sh_si (sh_as (sh_si hS ly_26 (k := 0) rfl 0) ly_43 ((w_i (w_si w 26 0 0) 26 24).toNatClampNeg) ((16 + x1) - 97)) ly_26 (k := 24) rfl ((w_i (w_sa (w_si w 26 0 0) 43 ((w_a (w_si w 26 0 0) 43).set (w_i (w_si w 26 0 0) 26 24).toNatClampNeg ((16 + x1) - 97))) 26 24) + 1)) ly_26 rfl rfl) rfl ?_
        refine gk_W_s 1 (pc1 := 60) (l1 := [some (.ref 27), some (.int x1)]) (st1 := [.int 1]) rfl ?_
        obtain ⟨rfl, rfl⟩ := h
        exact gk_W_r (i := .ireturn) rfl rfl rfl
      · have h := h.2 hp3
        refine gk_W_s 1 (pc1 := 27) (l1 := [some (.ref 27), some (.int x1)]) (st1 := [.int 0]) rfl ?_
        obtain ⟨rfl, rfl⟩ := h
        exact gk_W_r (i := .ireturn) rfl rfl rfl
/-- GrammarDeskModel.step(I)I, at 0 -/
theorem sg_215_0 {d : Nat} {rr : List gk_S} {w w' : gk_Wd} {r : gk_Res} (hS : gk_Sh rr w) (x1 : Int32)
    (h : ((x1 < 0 → (r = .inl (some (.int ((-1)))) ∧ w' = w_si w 26 0 0)) ∧ (¬ (x1 < 0) → ((x1 < (w_i (w_si w 26 0 0) 26 28) → (gk_out x1 10 = false ∧ (r = .inl (some (.int ((w_a (w_si w 26 0 0) 46).getD x1.toNatClampNeg 0))) ∧ w' = w_si w 26 0 0))) ∧ (¬ (x1 < (w_i (w_si w 26 0 0) 26 28)) → (r = .inl (some (.int ((-1)))) ∧ w' = w_si w 26 0 0)))))) :
    gk_W none d 215 0 [some (.ref 27), some (.int x1)] [] w r w' := by
  refine gk_W_s 2 (pc1 := 2) (l1 := [some (.ref 27), some (.int x1)]) (st1 := [.int 0, .ref 27]) rfl ?_
  refine gk_W_h (i := .putfield 97) 5 rfl rfl (h_pi (a := 26) (k := 0) (x := 0) hS ly_26 rfl rfl) rfl ?_
  refine gk_W_b 2 (x1 < 0) (t := 17) (e := 9) (l1 := [some (.ref 27), some (.int x1)]) (st1 := []) rfl (fun hp1 => ?_) (fun hp1 => ?_)
  · have h := h.1 hp1
    refine gk_W_s 2 (pc1 := 27) (l1 := [some (.ref 27), some (.int x1)]) (st1 := [.int ((-1))]) rfl ?_
    obtain ⟨rfl, rfl⟩ := h
    exact gk_W_r (i := .ireturn) rfl rfl rfl
  · have h := h.2 hp1
    refine gk_W_s 2 (pc1 := 11) (l1 := [some (.ref 27), some (.int x1)]) (st1 := [.ref 27, .int x1]) rfl ?_
    refine gk_W_h (i := .getfield 138) 14 rfl rfl (h_gi (a := 26) (k := 28) (sh_si hS ly_26 (k := 0) rfl 0) ly_26 rfl) rfl ?_
    refine gk_W_b 1 (x1 < (w_i (w_si w 26 0 0) 26 28)) (t := 21) (e := 17) (l1 := [some (.ref 27), some (.int x1)]) (st1 := []) rfl (fun hp2 => ?_) (fun hp2 => ?_)
    · have h := h.1 hp2
      refine gk_W_s 1 (pc1 := 22) (l1 := [some (.ref 27), some (.int x1)]) (st1 := [.ref 27]) rfl ?_
      refine gk_W_h (i := .getfield 73) 25 rfl rfl (h_gr (a := 26) (k := 29) (m := 47) (sh_si hS ly_26 (k := 0) rfl 0) ly_26 rfl) rfl ?_
      refine gk_W_s 1 (pc1 := 26) (l1 := [some (.ref 27), some (.int x1)]) (st1 := [.int x1, .ref 47]) rfl ?_
      obtain ⟨hb3, h⟩ := h
      refine gk_W_h (i := .iaload) 27 rfl rfl (h_al (a := 46) (scr := none) (sh_si hS ly_26 (k := 0) rfl 0) ly_46 hb3) rfl ?_
      obtain ⟨rfl, rfl⟩ := h
      exact gk_W_r (i := .ireturn) rfl rfl rfl
    · have h := h.2 hp2
      refine gk_W_s 2 (pc1 := 27) (l1 := [some (.ref 27), some (.int x1)]) (st1 := [.int ((-1))]) rfl ?_
      obtain ⟨rfl, rfl⟩ := h
      exact gk_W_r (i := .ireturn) rfl rfl rfl
/-- GrammarDeskModel.ways()I, at 0 -/
theorem sg_208_0 {d : Nat} {rr : List gk_S} {w w' : gk_Wd} {r : gk_Res} (hS : gk_Sh rr w)
    (h : gk_W none (d + 2) 208 7 [some (.ref 27), some (.int 0), none, none, none] [] (w_si w 26 0 0) r w') :
    gk_W none (d + 2) 208 0 [some (.ref 27), none, none, none, none] [] w r w' := by
  refine gk_W_s 2 (pc1 := 2) (l1 := [some (.ref 27), none, none, none, none]) (st1 := [.int 0, .ref 27]) rfl ?_
  refine gk_W_h (i := .putfield 97) 5 rfl rfl (h_pi (a := 26) (k := 0) (x := 0) hS ly_26 rfl rfl) rfl ?_
  refine gk_W_s 2 (pc1 := 7) (l1 := [some (.ref 27), some (.int 0), none, none, none]) (st1 := []) rfl ?_
  exact h
/-- GrammarDeskModel.ways()I, at 7 -/
theorem sg_208_7 {d : Nat} {rr : List gk_S} {w w' : gk_Wd} {r : gk_Res} (hS : gk_Sh rr w) (x1 : Int32)
    (h : (((w_i w 26 4) ≤ x1 → (((w_i w 26 0) = 0 → gk_W none (d + 2) 208 54 [some (.ref 27), some (.int 0), none, none, none] [] w r w') ∧ (¬ ((w_i w 26 0) = 0) → (r = .inl (some (.int 0)) ∧ w' = w)))) ∧ (¬ ((w_i w 26 4) ≤ x1) → (gk_out x1 64 = false ∧ ((((w_a w 29).getD x1.toNatClampNeg 0) = 0 → gk_W none (d + 2) 208 7 [some (.ref 27), some (.int (x1 + 1)), none, none, none] [] (w_si w 26 0 1) r w') ∧ (¬ (((w_a w 29).getD x1.toNatClampNeg 0) = 0) → ((gk_out x1 64 = false) ∧ (¬ (¬ ((w_a w 29).getD x1.toNatClampNeg 0) = 1) → (gk_out ((10 * x1) + 0) 640 = false)) ∧ (((f_179 w x1) = 0 → gk_W none (d + 2) 208 7 [some (.ref 27), some (.int (x1 + 1)), none, none, none] [] w r w') ∧ (¬ ((f_179 w x1) = 0) → gk_W none (d + 2) 208 7 [some (.ref 27), some (.int (x1 + 1)), none, none, none] [] (w_si w 26 0 1) r w'))))))))) :
    gk_W none (d + 2) 208 7 [some (.ref 27), some (.int x1), none, none, none] [] w r w' := by
  refine gk_W_s 2 (pc1 := 9) (l1 := [some (.ref 27), some (.int x1), none, none, none]) (st1 := [.ref 27, .int x1]) rfl ?_
  refine gk_W_h (i := .getfield 111) 12 rfl rfl (h_gi (a := 26) (k := 4) hS ly_26 rfl) rfl ?_
  refine gk_W_b 1 ((w_i w 26 4) ≤ x1) (t := 43) (e := 15) (l1 := [some (.ref 27), some (.int x1), none, none, none]) (st1 := []) rfl (fun hp1 => ?_) (fun hp1 => ?_)
  · have h := h.1 hp1
    refine gk_W_s 1 (pc1 := 44) (l1 := [some (.ref 27), some (.int x1), none, none, none]) (st1 := [.ref 27]) rfl ?_
    refine gk_W_h (i := .getfield 97) 47 rfl rfl (h_gi (a := 26) (k := 0) hS ly_26 rfl) rfl ?_
    refine gk_W_b 1 ((w_i w 26 0) = 0) (t := 52) (e := 50) (l1 := [some (.ref 27), some (.int x1), none, none, none]) (st1 := []) rfl (fun hp2 => ?_) (fun hp2 => ?_)
    · have h := h.1 hp2
      refine gk_W_s 2 (pc1 := 54) (l1 := [some (.ref 27), some (.int 0), none, none, none]) (st1 := []) rfl ?_
      exact h
    · have h := h.2 hp2
      refine gk_W_s 1 (pc1 := 51) (l1 := [some (.ref 27), some (.int x1), none, none, none]) (st1 := [.int 0]) rfl ?_
      obtain ⟨rfl, rfl⟩ := h
      exact gk_W_r (i := .ireturn) rfl rfl rfl
  · have h := h.2 hp1
    refine gk_W_s 1 (pc1 := 16) (l1 := [some (.ref 27), some (.int x1), none, none, none]) (st1 := [.ref 27]) rfl ?_
    refine gk_W_h (i := .getfield 21) 19 rfl rfl (h_gr (a := 26) (k := 6) (m := 30) hS ly_26 rfl) rfl ?_
    refine gk_W_s 1 (pc1 := 20) (l1 := [some (.ref 27), some (.int x1), none, none, none]) (st1 := [.int x1, .ref 30]) rfl ?_
    obtain ⟨hb3, h⟩ := h
    refine gk_W_h (i := .iaload) 21 rfl rfl (h_al (a := 29) (scr := none) hS ly_29 hb3) rfl ?_
    refine gk_W_b 1 (((w_a w 29).getD x1.toNatClampNeg 0) = 0) (t := 32) (e := 24) (l1 := [some (.ref 27), some (.int x1), none, none, none]) (st1 := []) rfl (fun hp4 => ?_) (fun hp4 => ?_)
    · have h := h.1 hp4
      refine gk_W_s 2 (pc1 := 34) (l1 := [some (.ref 27), some (.int x1), none, none, none]) (st1 := [.int 1, .ref 27]) rfl ?_
      refine gk_W_h (i := .putfield 97) 37 rfl rfl (h_pi (a := 26) (k := 0) (x := 1) hS ly_26 rfl rfl) rfl ?_
      refine gk_W_s 2 (pc1 := 7) (l1 := [some (.ref 27), some (.int (x1 + 1)), none, none, none]) (st1 := []) rfl ?_
      exact h
    · have h := h.2 hp4
      refine gk_W_s 2 (pc1 := 26) (l1 := [some (.ref 27), some (.int x1), none, none, none]) (st1 := [.int x1, .ref 27]) rfl ?_
      obtain ⟨hb5, hb6, h⟩ := h
      refine gk_W_c (i := .invokevirtual 210) [.int (f_179 w x1)] 29 rfl rfl (c_v (a := 26) hS ly_26 rfl rfl (Nat.le_of_ble_eq_true rfl)) (f_179_E hS x1 hb5 hb6) rfl rfl ?_
      refine gk_W_b 1 ((f_179 w x1) = 0) (t := 37) (e := 32) (l1 := [some (.ref 27), some (.int x1), none, none, none]) (st1 := []) rfl (fun hp7 => ?_) (fun hp7 => ?_)
      · have h := h.1 hp7
        refine gk_W_s 2 (pc1 := 7) (l1 := [some (.ref 27), some (.int (x1 + 1)), none, none, none]) (st1 := []) rfl ?_
        exact h
      · have h := h.2 hp7
        refine gk_W_s 2 (pc1 := 34) (l1 := [some (.ref 27), some (.int x1), none, none, none]) (st1 := [.int 1, .ref 27]) rfl ?_
        refine gk_W_h (i := .putfield 97) 37 rfl rfl (h_pi (a := 26) (k := 0) (x := 1) hS ly_26 rfl rfl) rfl ?_
        refine gk_W_s 2 (pc1 := 7) (l1 := [some (.ref 27), some (.int (x1 + 1)), none, none, none]) (st1 := []) rfl ?_
        exact h
/-- GrammarDeskModel.ways()I, at 54 -/
theorem sg_208_54 {d : Nat} {rr : List gk_S} {w w' : gk_Wd} {r : gk_Res} (hS : gk_Sh rr w) (x1 : Int32)
    (h : ((1936 ≤ x1 → gk_W none (d + 2) 208 76 [some (.ref 27), some (.int 1), none, none, none] [] w r w') ∧ (¬ (1936 ≤ x1) → (gk_out x1 1936 = false ∧ gk_W none (d + 2) 208 54 [some (.ref 27), some (.int (x1 + 1)), none, none, none] [] (w_sa w 45 ((w_a w 45).set x1.toNatClampNeg 0)) r w')))) :
    gk_W none (d + 2) 208 54 [some (.ref 27), some (.int x1), none, none, none] [] w r w' := by
  refine gk_W_b 3 (1936 ≤ x1) (t := 74) (e := 61) (l1 := [some (.ref 27), some (.int x1), none, none, none]) (st1 := []) rfl (fun hp1 => ?_) (fun hp1 => ?_)
  · have h := h.1 hp1
    refine gk_W_s 2 (pc1 := 76) (l1 := [some (.ref 27), some (.int 1), none, none, none]) (st1 := []) rfl ?_
    exact h
  · have h := h.2 hp1
    refine gk_W_s 1 (pc1 := 62) (l1 := [some (.ref 27), some (.int x1), none, none, none]) (st1 := [.ref 27]) rfl ?_
    refine gk_W_h (i := .getfield 70) 65 rfl rfl (h_gr (a := 26) (k := 27) (m := 46) hS ly_26 rfl) rfl ?_
    refine gk_W_s 2 (pc1 := 67) (l1 := [some (.ref 27), some (.int x1), none, none, none]) (st1 := [.int 0, .int x1, .ref 46]) rfl ?_
    obtain ⟨hb2, h⟩ := h
    refine gk_W_h (i := .iastore) 68 rfl rfl (h_as (a := 45) (t := 0) hS ly_45 hb2 rfl) rfl ?_
    refine gk_W_s 2 (pc1 := 54) (l1 := [some (.ref 27), some (.int (x1 + 1)), none, none, none]) (st1 := []) rfl ?_
    exact h
/-- GrammarDeskModel.ways()I, at 76 -/
theorem sg_208_76 {d : Nat} {rr : List gk_S} {w w' : gk_Wd} {r : gk_Res} (hS : gk_Sh rr w) (x1 : Int32)
    (h : (((w_i w 26 24) < x1 → (gk_out (w_i w 26 24) 1936 = false ∧ (r = .inl (some (.int ((w_a w 45).getD (w_i w 26 24).toNatClampNeg 0))) ∧ w' = w))) ∧ (¬ ((w_i w 26 24) < x1) → gk_W none (d + 2) 208 86 [some (.ref 27), some (.int x1), some (.int 0), none, none] [] w r w'))) :
    gk_W none (d + 2) 208 76 [some (.ref 27), some (.int x1), none, none, none] [] w r w' := by
  refine gk_W_s 2 (pc1 := 78) (l1 := [some (.ref 27), some (.int x1), none, none, none]) (st1 := [.ref 27, .int x1]) rfl ?_
  refine gk_W_h (i := .getfield 270) 81 rfl rfl (h_gi (a := 26) (k := 24) hS ly_26 rfl) rfl ?_
  refine gk_W_b 1 ((w_i w 26 24) < x1) (t := 173) (e := 84) (l1 := [some (.ref 27), some (.int x1), none, none, none]) (st1 := []) rfl (fun hp1 => ?_) (fun hp1 => ?_)
  · have h := h.1 hp1
    refine gk_W_s 1 (pc1 := 174) (l1 := [some (.ref 27), some (.int x1), none, none, none]) (st1 := [.ref 27]) rfl ?_
    refine gk_W_h (i := .getfield 70) 177 rfl rfl (h_gr (a := 26) (k := 27) (m := 46) hS ly_26 rfl) rfl ?_
    refine gk_W_s 1 (pc1 := 178) (l1 := [some (.ref 27), some (.int x1), none, none, none]) (st1 := [.ref 27, .ref 46]) rfl ?_
    refine gk_W_h (i := .getfield 270) 181 rfl rfl (h_gi (a := 26) (k := 24) hS ly_26 rfl) rfl ?_
    obtain ⟨hb2, h⟩ := h
    refine gk_W_h (i := .iaload) 182 rfl rfl (h_al (a := 45) (scr := none) hS ly_45 hb2) rfl ?_
    obtain ⟨rfl, rfl⟩ := h
    exact gk_W_r (i := .ireturn) rfl rfl rfl
  · have h := h.2 hp1
    refine gk_W_s 2 (pc1 := 86) (l1 := [some (.ref 27), some (.int x1), some (.int 0), none, none]) (st1 := []) rfl ?_
    exact h
/-- GrammarDeskModel.ways()I, at 86 -/
theorem sg_208_86 {d : Nat} {rr : List gk_S} {w w' : gk_Wd} {r : gk_Res} (hS : gk_Sh rr w) (x1 : Int32) (x2 : Int32)
    (h : (((w_i w 26 24) < (x2 + x1) → gk_W none (d + 2) 208 76 [some (.ref 27), some (.int (x1 + 1)), none, none, none] [] w r w') ∧ (¬ ((w_i w 26 24) < (x2 + x1)) → gk_W none (d + 2) 208 98 [some (.ref 27), some (.int x1), some (.int x2), some (.int 0), none] [] w r w'))) :
    gk_W none (d + 2) 208 86 [some (.ref 27), some (.int x1), some (.int x2), none, none] [] w r w' := by
  refine gk_W_s 4 (pc1 := 90) (l1 := [some (.ref 27), some (.int x1), some (.int x2), none, none]) (st1 := [.ref 27, .int (x2 + x1)]) rfl ?_
  refine gk_W_h (i := .getfield 270) 93 rfl rfl (h_gi (a := 26) (k := 24) hS ly_26 rfl) rfl ?_
  refine gk_W_b 1 ((w_i w 26 24) < (x2 + x1)) (t := 167) (e := 96) (l1 := [some (.ref 27), some (.int x1), some (.int x2), none, none]) (st1 := []) rfl (fun hp1 => ?_) (fun hp1 => ?_)
  · have h := h.1 hp1
    refine gk_W_s 2 (pc1 := 76) (l1 := [some (.ref 27), some (.int (x1 + 1)), some (.int x2), none, none]) (st1 := []) rfl ?_
    exact gk_W_le (gk_le_s (gk_le_s (gk_le_n (gk_le_s (gk_le_s (gk_le_0)))))) h
  · have h := h.2 hp1
    refine gk_W_s 2 (pc1 := 98) (l1 := [some (.ref 27), some (.int x1), some (.int x2), some (.int 0), none]) (st1 := []) rfl ?_
    exact h
/-- GrammarDeskModel.ways()I, at 98 -/
theorem sg_208_98 {d : Nat} {rr : List gk_S} {w w' : gk_Wd} {r : gk_Res} (hS : gk_Sh rr w) (x1 : Int32) (x2 : Int32) (x3 : Int32)
    (h : (((w_i w 26 4) ≤ x3 → gk_W none (d + 2) 208 86 [some (.ref 27), some (.int x1), some (.int (x2 + 1)), none, none] [] w r w') ∧ (¬ ((w_i w 26 4) ≤ x3) → (gk_out x3 64 = false ∧ (gk_out ((((121 * ((w_a w 28).getD x3.toNatClampNeg 0)) + (11 * x2)) + x2) + x1) 1936 = false ∧ (∃ (v5 : Int32), ∃ (w6 : gk_Wd), gk_E (d + 1) 209 [.ref 27, .int x3, .int x2, .int (x2 + x1)] w (.inl (some (.int v5))) w6 ∧ gk_Sh rr w6 ∧ (gk_out ((((121 * ((w_a w 28).getD x3.toNatClampNeg 0)) + (11 * x2)) + x2) + x1) 1936 = false ∧ gk_W none (d + 2) 208 98 [some (.ref 27), some (.int x1), some (.int x2), some (.int (x3 + 1)), none] [] (w_sa w6 45 ((w_a w6 45).set ((((121 * ((w_a w 28).getD x3.toNatClampNeg 0)) + (11 * x2)) + x2) + x1).toNatClampNeg (f_211 ((((w_a w 45).getD ((((121 * ((w_a w 28).getD x3.toNatClampNeg 0)) + (11 * x2)) + x2) + x1).toNatClampNeg 0).toInt64) + (v5.toInt64))))) r w'))))))) :
    gk_W none (d + 2) 208 98 [some (.ref 27), some (.int x1), some (.int x2), some (.int x3), none] [] w r w' := by
  refine gk_W_s 2 (pc1 := 100) (l1 := [some (.ref 27), some (.int x1), some (.int x2), some (.int x3), none]) (st1 := [.ref 27, .int x3]) rfl ?_
  refine gk_W_h (i := .getfield 111) 103 rfl rfl (h_gi (a := 26) (k := 4) hS ly_26 rfl) rfl ?_
  refine gk_W_b 1 ((w_i w 26 4) ≤ x3) (t := 161) (e := 106) (l1 := [some (.ref 27), some (.int x1), some (.int x2), some (.int x3), none]) (st1 := []) rfl (fun hp1 => ?_) (fun hp1 => ?_)
  · have h := h.1 hp1
    refine gk_W_s 2 (pc1 := 86) (l1 := [some (.ref 27), some (.int x1), some (.int (x2 + 1)), some (.int x3), none]) (st1 := []) rfl ?_
    exact gk_W_le (gk_le_s (gk_le_s (gk_le_s (gk_le_n (gk_le_s (gk_le_0)))))) h
  · have h := h.2 hp1
    refine gk_W_s 2 (pc1 := 109) (l1 := [some (.ref 27), some (.int x1), some (.int x2), some (.int x3), none]) (st1 := [.ref 27, .int 121]) rfl ?_
    refine gk_W_h (i := .getfield 17) 112 rfl rfl (h_gr (a := 26) (k := 5) (m := 29) hS ly_26 rfl) rfl ?_
    refine gk_W_s 1 (pc1 := 113) (l1 := [some (.ref 27), some (.int x1), some (.int x2), some (.int x3), none]) (st1 := [.int x3, .ref 29, .int 121]) rfl ?_
    obtain ⟨hb2, h⟩ := h
    refine gk_W_h (i := .iaload) 114 rfl rfl (h_al (a := 28) (scr := none) hS ly_28 hb2) rfl ?_
    refine gk_W_s 11 (pc1 := 127) (l1 := [some (.ref 27), some (.int x1), some (.int x2), some (.int x3), some (.int ((((121 * ((w_a w 28).getD x3.toNatClampNeg 0)) + (11 * x2)) + x2) + x1))]) (st1 := [.ref 27]) rfl ?_
    refine gk_W_h (i := .getfield 70) 130 rfl rfl (h_gr (a := 26) (k := 27) (m := 46) hS ly_26 rfl) rfl ?_
    refine gk_W_s 2 (pc1 := 133) (l1 := [some (.ref 27), some (.int x1), some (.int x2), some (.int x3), some (.int ((((121 * ((w_a w 28).getD x3.toNatClampNeg 0)) + (11 * x2)) + x2) + x1))]) (st1 := [.ref 27, .int ((((121 * ((w_a w 28).getD x3.toNatClampNeg 0)) + (11 * x2)) + x2) + x1), .ref 46]) rfl ?_
    refine gk_W_h (i := .getfield 70) 136 rfl rfl (h_gr (a := 26) (k := 27) (m := 46) hS ly_26 rfl) rfl ?_
    refine gk_W_s 1 (pc1 := 138) (l1 := [some (.ref 27), some (.int x1), some (.int x2), some (.int x3), some (.int ((((121 * ((w_a w 28).getD x3.toNatClampNeg 0)) + (11 * x2)) + x2) + x1))]) (st1 := [.int ((((121 * ((w_a w 28).getD x3.toNatClampNeg 0)) + (11 * x2)) + x2) + x1), .ref 46, .int ((((121 * ((w_a w 28).getD x3.toNatClampNeg 0)) + (11 * x2)) + x2) + x1), .ref 46]) rfl ?_
    obtain ⟨hb3, h⟩ := h
    refine gk_W_h (i := .iaload) 139 rfl rfl (h_al (a := 45) (scr := none) hS ly_45 hb3) rfl ?_
    refine gk_W_s 7 (pc1 := 146) (l1 := [some (.ref 27), some (.int x1), some (.int x2), some (.int x3), some (.int ((((121 * ((w_a w 28).getD x3.toNatClampNeg 0)) + (11 * x2)) + x2) + x1))]) (st1 := [.int (x2 + x1), .int x2, .int x3, .ref 27, .long (((w_a w 45).getD ((((121 * ((w_a w 28).getD x3.toNatClampNeg 0)) + (11 * x2)) + x2) + x1).toNatClampNeg 0).toInt64), .int ((((121 * ((w_a w 28).getD x3.toNatClampNeg 0)) + (11 * x2)) + x2) + x1), .ref 46]) rfl ?_
    obtain ⟨v5, w6, hE4, hS7, h⟩ := h
    refine gk_W_c (i := .invokevirtual 290) [.int v5, .long (((w_a w 45).getD ((((121 * ((w_a w 28).getD x3.toNatClampNeg 0)) + (11 * x2)) + x2) + x1).toNatClampNeg 0).toInt64), .int ((((121 * ((w_a w 28).getD x3.toNatClampNeg 0)) + (11 * x2)) + x2) + x1), .ref 46] 149 rfl rfl (c_v (a := 26) hS ly_26 rfl rfl (Nat.le_of_ble_eq_true rfl)) hE4 rfl rfl ?_
    refine gk_W_s 2 (pc1 := 151) (l1 := [some (.ref 27), some (.int x1), some (.int x2), some (.int x3), some (.int ((((121 * ((w_a w 28).getD x3.toNatClampNeg 0)) + (11 * x2)) + x2) + x1))]) (st1 := [.long ((((w_a w 45).getD ((((121 * ((w_a w 28).getD x3.toNatClampNeg 0)) + (11 * x2)) + x2) + x1).toNatClampNeg 0).toInt64) + (v5.toInt64)), .int ((((121 * ((w_a w 28).getD x3.toNatClampNeg 0)) + (11 * x2)) + x2) + x1), .ref 46]) rfl ?_
    refine gk_W_c (i := .invokestatic 286) [.int (f_211 ((((w_a w 45).getD ((((121 * ((w_a w 28).getD x3.toNatClampNeg 0)) + (11 * x2)) + x2) + x1).toNatClampNeg 0).toInt64) + (v5.toInt64))), .int ((((121 * ((w_a w 28).getD x3.toNatClampNeg 0)) + (11 * x2)) + x2) + x1), .ref 46] 154 rfl rfl rfl (f_211_E ((((w_a w 45).getD ((((121 * ((w_a w 28).getD x3.toNatClampNeg 0)) + (11 * x2)) + x2) + x1).toNatClampNeg 0).toInt64) + (v5.toInt64))) rfl rfl ?_
    obtain ⟨hb8, h⟩ := h
    refine gk_W_h (i := .iastore) 155 rfl rfl (h_as (a := 45) (t := 0) hS7 ly_45 hb8 rfl) rfl ?_
    refine gk_W_s 2 (pc1 := 98) (l1 := [some (.ref 27), some (.int x1), some (.int x2), some (.int (x3 + 1)), some (.int ((((121 * ((w_a w 28).getD x3.toNatClampNeg 0)) + (11 * x2)) + x2) + x1))]) (st1 := []) rfl ?_
    exact gk_W_le (gk_le_s (gk_le_s (gk_le_s (gk_le_s (gk_le_n (gk_le_0)))))) h
