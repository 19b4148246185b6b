/-! part 80: shape of the reference -/
section AN
variable {xs : List Int32} {rr r1 : List gk_S} {w w' w1 w2 : gk_Wd} {G H K : List Rl} {D S : List Int32} {fa x4 : Int32} {wd : List Nat} {d : Nat}
theorem m_11 (hS : gk_Sh rr w) (hm : MV w G D fa wd S) (hU : isU G H) : MC 190 [.ref 27] rr w (shR G (decide (G.length - H.length ≠ 0))) G D fa wd S := by
  have h60 := RM_60 hm.1
  have m0 := m0_mv hm
  have s0 := m0_sh hS
  have e1 := E191 (d := 5) s0 m0.1
  obtain ⟨w2, e2, s2, f2, q2, i2⟩ := E147 (d := 5) s0 m0.1
  have m2 := MV_Fr m0 f2 (by decide) (by decide)
  obtain ⟨H', w3, u3, e3, s3, f3, q3⟩ := E161 (d := 4) s2 m2.1
  obtain rfl := isU_uniq hU u3
  have m3 := MV_G m2 f3 q3 (by decide) (by decide)
  obtain ⟨w5, e5, s5, f5, q5⟩ := E174 (d := 6) s3 (RM_Fr q2 f3 (by decide) (by decide))
  have m5 := MV_G m3 f5 q5 (by decide) (by decide)
  have g1 : Int32.ofNat (G.length - H.length) ≤ 0 ↔ G.length - H.length = 0 := by
    rw [show (0 : Int32) = Int32.ofNat 0 from rfl, i_le (by omega) (by omega)]; omega
  have z := E190_l (d := 5) s0 m0.1 G.length 0 false false (by omega) (.inl (some (.int (shR G (decide (G.length - H.length ≠ 0)))))) w5
  rw [List.drop_zero, Bool.false_or, Bool.false_or] at z
  have a1 : G.all neB = !(G.any fun r => !neB r) := by rw [List.all_eq_not_any_not]
  have a2 : G.all nuB = !(G.any unB) := by rw [List.not_any_eq_all_not]; rfl
  refine ⟨w5, gk_E_i rfl rfl (sg_190_0 (d := 5) hS (z ?_)), s5, Fr_trans m0_fr (Fr_trans (fr_n f2) (Fr_trans (fr_n f3) (fr_n f5))), m5⟩
  refine sg_190_11 (d := 5) s0 _ _ _ ⟨fun _ => ⟨_, e1, w2, e2, s2, _, w3, e3, s3, ?_⟩, fun q => absurd ((RM_le m0.1 (by omega)).mpr (Nat.le_refl _)) q⟩
  rw [g1]
  unfold shR
  rw [a1, a2]
  generalize (G.any fun r => !neB r) = a
  generalize G.any unB = b
  generalize G.all gbB = c
  refine ⟨fun qq => ⟨w5, e5, s5, ?_⟩, fun qq => ⟨w5, e5, s5, ?_⟩⟩
  · rw [if_neg (by rw [qq]; decide)]
    refine ⟨fun q => ⟨fun q2 => ⟨fun q3 => ⟨v_eq ?_, rfl⟩, fun q3 => ⟨v_eq ?_, rfl⟩⟩, fun q2 => ⟨fun q3 => ⟨v_eq ?_, rfl⟩, fun q3 => ⟨v_eq ?_, rfl⟩⟩⟩, fun q => ⟨fun q2 => ⟨fun q3 => ⟨v_eq ?_, rfl⟩, fun q3 => ⟨v_eq ?_, rfl⟩⟩, fun q2 => ⟨fun q3 => ⟨v_eq ?_, rfl⟩, fun q3 => ⟨v_eq ?_, rfl⟩⟩⟩⟩ <;> (revert q q2 q3; cases a <;> cases b <;> cases c <;> decide)
  · rw [if_pos (decide_eq_true qq)]
    refine ⟨fun q => ⟨fun q2 => ⟨fun q3 => ⟨v_eq ?_, rfl⟩, fun q3 => ⟨v_eq ?_, rfl⟩⟩, fun q2 => ⟨fun q3 => ⟨v_eq ?_, rfl⟩, fun q3 => ⟨v_eq ?_, rfl⟩⟩⟩, fun q => ⟨fun q2 => ⟨fun q3 => ⟨v_eq ?_, rfl⟩, fun q3 => ⟨v_eq ?_, rfl⟩⟩, fun q2 => ⟨fun q3 => ⟨v_eq ?_, rfl⟩, fun q3 => ⟨v_eq ?_, rfl⟩⟩⟩⟩ <;> (revert q q2 q3; cases a <;> cases b <;> cases c <;> decide)
theorem t_11 (hS : gk_Sh rr w) (hI : Inv w) (hn : ¬ ((Int32.ofNat xs.length) - 3) < x4) (hx : (xs.getD x4.toNatClampNeg 0) &&& 31 = 11) (o0 : gk_out x4 xs.length = false) : Tn xs rr w x4 := by
  obtain ⟨G, D, fa, wd, S, hc, hm⟩ := hI
  obtain ⟨H, hU, w1, e1, s1, f1, c1⟩ := c_11 hS hc
  obtain ⟨w2, e2, s2, f2, m2⟩ := m_11 s1 (MV_C hm f1) hU
  exact ⟨w2, rr, s2, ⟨_, _, _, _, _, CV_N c1 f2, m2⟩, Or.inl rfl, fun r w' h => lw_op11 hS x4 hn hx ⟨o0, _, w1, rr, e1, s1, _, w2, rr, e2, s2, fun _ => h, fun q => absurd rfl q⟩⟩
end AN
