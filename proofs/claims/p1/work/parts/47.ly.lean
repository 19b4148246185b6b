/-! part 27: the places of the fixed row, calls, weaker locals -/
theorem ly_0 : gp_lay[0]? = some (.inl (0, [4, 6, 8, 10, 14, 17, 20, 22, 0])) := rfl
theorem ly_1 : gp_lay[1]? = some (.inl (3, [5, 0])) := rfl
theorem ly_2 : gp_lay[2]? = some (.inr (.inl (1, 9))) := rfl
theorem ly_3 : gp_lay[3]? = some (.inl (7, [7, 0])) := rfl
theorem ly_4 : gp_lay[4]? = some (.inr (.inr 60)) := rfl
theorem ly_5 : gp_lay[5]? = some (.inl (7, [9, 0])) := rfl
theorem ly_6 : gp_lay[6]? = some (.inr (.inr 60)) := rfl
theorem ly_7 : gp_lay[7]? = some (.inl (2, [11, 13])) := rfl
theorem ly_8 : gp_lay[8]? = some (.inl (7, [12, 0])) := rfl
theorem ly_9 : gp_lay[9]? = some (.inr (.inr 60)) := rfl
theorem ly_10 : gp_lay[10]? = some (.inr (.inl (0, 16))) := rfl
theorem ly_11 : gp_lay[11]? = some (.inl (4, [10, 15, 0])) := rfl
theorem ly_12 : gp_lay[12]? = some (.inl (7, [16, 0])) := rfl
theorem ly_13 : gp_lay[13]? = some (.inr (.inr 60)) := rfl
theorem ly_14 : gp_lay[14]? = some (.inl (6, [18, 19, 0])) := rfl
theorem ly_15 : gp_lay[15]? = some (.inr (.inl (0, 16))) := rfl
theorem ly_16 : gp_lay[16]? = some (.inr (.inl (0, 16))) := rfl
theorem ly_17 : gp_lay[17]? = some (.inl (5, [21])) := rfl
theorem ly_18 : gp_lay[18]? = some (.inr (.inl (0, 16))) := rfl
theorem ly_19 : gp_lay[19]? = some (.inl (8, [23, 0, 24, 25, 26, 27, 0, 28, 0])) := rfl
theorem ly_20 : gp_lay[20]? = some (.inr (.inl (0, 10))) := rfl
theorem ly_21 : gp_lay[21]? = some (.inr (.inl (0, 176))) := rfl
theorem ly_22 : gp_lay[22]? = some (.inr (.inl (0, 1936))) := rfl
theorem ly_23 : gp_lay[23]? = some (.inr (.inr 11)) := rfl
theorem ly_24 : gp_lay[24]? = some (.inr (.inl (0, 10))) := rfl
theorem ly_25 : gp_lay[25]? = some (.inr (.inl (0, 20))) := rfl
theorem ly_26 : gp_lay[26]? = some (.inl (1, [0, 0, 30, 0, 0, 31, 32, 33, 0, 34, 35, 36, 0, 37, 0, 0, 38, 39, 40, 41, 42, 43, 44, 45, 0, 46, 47, 48, 0, 49, 0, 50, 0, 51, 52, 53, 54, 55, 56])) := rfl
theorem ly_27 : gp_lay[27]? = some (.inr (.inl (1, 9))) := rfl
theorem ly_28 : gp_lay[28]? = some (.inr (.inl (0, 64))) := rfl
theorem ly_29 : gp_lay[29]? = some (.inr (.inl (0, 64))) := rfl
theorem ly_30 : gp_lay[30]? = some (.inr (.inl (0, 640))) := rfl
theorem ly_31 : gp_lay[31]? = some (.inr (.inl (0, 64))) := rfl
theorem ly_32 : gp_lay[32]? = some (.inr (.inl (0, 64))) := rfl
theorem ly_33 : gp_lay[33]? = some (.inr (.inl (0, 640))) := rfl
theorem ly_34 : gp_lay[34]? = some (.inr (.inl (0, 24))) := rfl
theorem ly_35 : gp_lay[35]? = some (.inr (.inl (2, 16))) := rfl
theorem ly_36 : gp_lay[36]? = some (.inr (.inl (2, 16))) := rfl
theorem ly_37 : gp_lay[37]? = some (.inr (.inl (2, 16))) := rfl
theorem ly_38 : gp_lay[38]? = some (.inr (.inl (2, 16))) := rfl
theorem ly_39 : gp_lay[39]? = some (.inr (.inl (2, 16))) := rfl
theorem ly_40 : gp_lay[40]? = some (.inr (.inl (2, 256))) := rfl
theorem ly_41 : gp_lay[41]? = some (.inr (.inl (0, 16))) := rfl
theorem ly_42 : gp_lay[42]? = some (.inr (.inl (0, 16))) := rfl
theorem ly_43 : gp_lay[43]? = some (.inr (.inl (0, 10))) := rfl
theorem ly_44 : gp_lay[44]? = some (.inr (.inl (0, 176))) := rfl
theorem ly_45 : gp_lay[45]? = some (.inr (.inl (0, 1936))) := rfl
theorem ly_46 : gp_lay[46]? = some (.inr (.inl (0, 10))) := rfl
theorem ly_47 : gp_lay[47]? = some (.inr (.inl (0, 40))) := rfl
theorem ly_48 : gp_lay[48]? = some (.inr (.inl (0, 64))) := rfl
theorem ly_49 : gp_lay[49]? = some (.inr (.inl (0, 64))) := rfl
theorem ly_50 : gp_lay[50]? = some (.inr (.inl (0, 640))) := rfl
theorem ly_51 : gp_lay[51]? = some (.inr (.inl (0, 12))) := rfl
theorem ly_52 : gp_lay[52]? = some (.inr (.inl (0, 11))) := rfl
theorem ly_53 : gp_lay[53]? = some (.inr (.inl (0, 11))) := rfl
theorem ly_54 : gp_lay[54]? = some (.inr (.inr 1)) := rfl
/-- a RuleSet lies at a, its row of longs behind it -/
def gk_rs (a : Nat) : Prop := gp_lay[a]? = some (.inl (7, [a + 4, 0])) ∧ gp_lay[a + 1]? = some (.inr (.inr 60))
theorem rs_3 : gk_rs 3 := ⟨rfl, rfl⟩
theorem rs_5 : gk_rs 5 := ⟨rfl, rfl⟩
theorem rs_8 : gk_rs 8 := ⟨rfl, rfl⟩
theorem rs_12 : gk_rs 12 := ⟨rfl, rfl⟩
theorem gk_le_0 : gk_le [] [] := trivial
theorem gk_le_s {o : Option Value} {l l' : gk_Lc} (h : gk_le l l') : gk_le (o :: l) (o :: l') := ⟨Or.inr rfl, h⟩
theorem gk_le_n {o : Option Value} {l l' : gk_Lc} (h : gk_le l l') : gk_le (none :: l) (o :: l') := ⟨Or.inl rfl, h⟩
theorem c_v {rr : List gk_S} {w : gk_Wd} {a ci mi mj na k : Nat} {ks : List Nat} {st r : List Value} {P : gk_Pg} (hS : gk_Sh rr w) (h : gp_lay[a]? = some (.inl (ci, ks))) (hm : gk_mth P mi k = some (1, mj, na, ci)) (hd : st.drop na = .ref (a + 1) :: r) (hc : gk_cat r ≤ 8) : gk_call P mi w st (.invokevirtual k) = some (mj, .ref (a + 1) :: (st.take na).reverse, r) := by
  obtain ⟨fs, h1, -⟩ := w_obj hS h
  simp only [gk_call, hm, hd, h1]
  rw [if_pos ⟨trivial, hc⟩]
theorem gk_ret_f {ty : FieldType} {x : Int32} (h : fits ty (.int x) = true) : gk_ret (some ty) [.int x] .ireturn = some (some (.int x)) := by
  simp only [gk_ret]
  rw [if_pos h]
theorem gk_fit_c (u : UInt32) : fits .char (.int (u % 65536).toInt32) = true := by
  have h : (u % 65536).toNat < 65536 := by
    rw [UInt32.toNat_mod]
    exact Nat.mod_lt _ (by decide)
  have hi : ((u % 65536).toInt32).toInt = ((u % 65536).toNat : Int) := by
    show BitVec.toInt (u % 65536).toBitVec = _
    rw [BitVec.toInt_eq_toNat_of_lt]
    · rfl
    · show 2 * (u % 65536).toNat < 2 ^ 32
      omega
  simp only [fits, Bool.and_eq_true, decide_eq_true_eq, Int32.le_iff_toInt_le, hi]
  constructor
  · show (0 : Int) ≤ _
    omega
  · show _ ≤ (65535 : Int)
    omega
