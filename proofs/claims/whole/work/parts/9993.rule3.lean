/-! part 83: rule of the reference; its turn -/
section RW3
variable {xs : List Int32} {rr r1 : List gk_S} {w w' w1 w2 : gk_Wd} {G H K : List Rl} {D S : List Int32} {fa x4 : Int32} {wd : List Nat} {d : Nat}
theorem fpL_le : ∀ {D : List Int32} {k j : Nat}, fpL D k = some j → j ≤ k + D.length
  | [], k, j, h => by
    simp only [fpL] at h
    by_cases q : 2 ≤ k
    · rw [if_pos q] at h; cases h
    · rw [if_neg q] at h; cases h; simp
  | c :: D, k, j, h => by
    simp only [fpL] at h
    by_cases q : f_86 c (Int32.ofNat k) = 0
    · rw [if_pos q] at h; cases h; omega
    · rw [if_neg q] at h
      have := fpL_le h
      simp; omega
theorem MV_de (hS : gk_Sh rr w) (h : MV w G D fa wd S) (v : Int32) : gk_Sh rr (w_si (w_si w 26 3 v) 26 1 0) ∧ Fr [] [(26, 3), (26, 1)] w (w_si (w_si w 26 3 v) 26 1 0) ∧ MV (w_si (w_si w 26 3 v) 26 1 0) G [] v wd S := by
  have s1 : gk_Sh rr (w_si w 26 3 v) := sh_si hS ly_26 rfl _
  have f : Fr [] [(26, 3), (26, 1)] w (w_si (w_si w 26 3 v) 26 1 0) := Fr_trans (Fr_si (by decide) _) (Fr_si (by decide) _)
  exact ⟨sh_si s1 ly_26 rfl _, f, RM_Fr h.1 f (by decide) (by decide), LQ_nil (w_i_same s1 ly_26 rfl), by rw [w_i_ne (by decide)]; exact w_i_same hS ly_26 rfl, WM_Fr h.2.2.2.1 f (by decide) (by decide), LQ_Fr h.2.2.2.2 f (by decide) (by decide)⟩
theorem m_1f (hS : gk_Sh rr w) (hm : MV w G D fa wd S) {k : Nat} (hk : fpL D 0 = some k) (hb : k < 2147483648) : MX 143 rr w 1 0 G [] (Int32.ofNat k) wd S := by
  have m0 := m0_mv hm
  have s0 := m0_sh hS
  have e1 := E144 (d := 5) s0 m0.2.1
  rw [hk] at e1
  obtain ⟨s1, f1, c1⟩ := MV_de s0 m0 (Int32.ofNat k)
  have n1 : ¬ w_i (w_si (w_si (w_si w 26 0 0) 26 3 (Int32.ofNat k)) 26 1 0) 26 3 < 0 := by rw [c1.2.2.1]; exact i_neg hb
  generalize hwA : w_si (w_si (w_si w 26 0 0) 26 3 (Int32.ofNat k)) 26 1 0 = wA at s1 f1 c1 n1
  have f2 : Fr [] [(26, 0)] wA (w_si wA 26 0 1) := Fr_si (by decide) _
  have s2 : gk_Sh rr (w_si wA 26 0 1) := sh_si s1 ly_26 rfl _
  refine ⟨_, gk_E_i rfl rfl (sg_143_0 (d := 6) hS ⟨_, e1, fun q => absurd q (by rw [show (oI (some k)) = Int32.ofNat k from rfl, hwA]; exact n1), fun _ => ⟨_, _, ?_, s2, rfl, rfl⟩⟩), s2, Fr_trans m0_fr (Fr_trans (fr_n f1) (fr_n f2)), MV_Fr c1 f2 (by decide) (by decide), w_i_same s1 ly_26 rfl⟩
  rw [show (oI (some k)) = Int32.ofNat k from rfl, hwA]
  exact E146 s1 1
theorem E143_l {R : List Nat} (h24 : R.length ≤ 7) (hR22 : ∀ s ∈ R, s < 22) : ∀ (m k : Nat) (w : gk_Wd), gk_Sh rr w → k + m = R.length → w_i w 26 12 = Int32.ofNat R.length → (∀ j s, R[j]? = some s → f_145 ((w_a w 27).getD (j + 2) 0) 72 = Int32.ofNat s) → (∀ j s, j < k → R[j]? = some s → (w_a w 34).getD j 0 = Int32.ofNat s) →
    ∃ w1, gk_Sh rr w1 ∧ Fr [34] [] w w1 ∧ RG w1 R ∧ ∀ (r : gk_Res) (w' : gk_Wd), gk_W none (d + 1) 143 49 [some (.ref 27), none, some (.int (Int32.ofNat R.length))] [] w1 r w' → gk_W none (d + 1) 143 49 [some (.ref 27), none, some (.int (Int32.ofNat k))] [] w r w'
  | 0, k, w, hS, hk, h12, h27, h34 => by
    obtain rfl : k = R.length := by omega
    exact ⟨w, hS, Fr_refl, ⟨h12, by omega, hR22, fun j s hj => h34 j s (List.getElem?_eq_some_iff.mp hj).1 hj⟩, fun r w' h => h⟩
  | m + 1, k, w, hS, hk, h12, h27, h34 => by
    have hkl : k < R.length := by omega
    have ef := h27 k R[k] (List.getElem?_eq_getElem hkl)
    have s1 := sh_as hS ly_34 k (Int32.ofNat R[k])
    have f1 : Fr [34] [] w (w_sa w 34 ((w_a w 34).set k (Int32.ofNat R[k]))) := Fr_sa (by decide) _
    have hlen : (w_a w 34).length = 24 := (w_int hS ly_34).2
    obtain ⟨w2, s2, f2, g2, z2⟩ := E143_l h24 hR22 m (k + 1) _ s1 (by omega) (by rw [Fr_i f1 (by decide)]; exact h12) (by rw [Fr_a f1 (by decide)]; exact h27) (fun j s hj hjs => by
      rw [w_a_same hS ly_34, List.getD_eq_getElem?_getD]
      by_cases e : j = k
      · subst e
        rw [List.getElem?_set_self (by omega)]
        rw [List.getElem?_eq_getElem hkl] at hjs
        cases hjs; rfl
      · rw [List.getElem?_set_ne (fun q => e q.symm), ← List.getD_eq_getElem?_getD]
        exact h34 j s (by omega) hjs)
    refine ⟨w2, s2, Fr_trans f1 f2, g2, fun r w' h => sg_143_49 hS _ ⟨fun q => absurd (by rw [h12] at q; exact (i_le (by omega) (by omega)).mp q) (by omega), fun _ => ⟨?_, o_ok (by omega) (by omega), ?_⟩⟩⟩
    · rw [show (2 : Int32) = Int32.ofNat 2 from rfl, i_add]; exact o_ok (by omega) (by omega)
    · rw [show (2 : Int32) = Int32.ofNat 2 from rfl, i_add, i_nat (by omega), i_nat (by omega), ef, i_s]
      exact z2 r w' h
theorem m_1g (hS : gk_Sh rr w) (hs : srt G) (hm : MV w G D fa wd S) (hk : fpL D 0 = none) : (qD D ∈ G → MX 143 rr w 0 (Int32.ofNat (posR (qD D) G)) G [] (-1) wd S) ∧ (qD D ∉ G → G.length < 60 → MX 143 rr w 0 (Int32.ofNat (posR (qD D) G)) (insR (qD D) G) [] (-1) wd []) ∧ (qD D ∉ G → G.length = 60 → MX 143 rr w 2 0 G [] (-1) wd S) := by
  have m0 := m0_mv hm
  have s0 := m0_sh hS
  have h60 := RM_60 m0.1
  have hD := okD_of hk m0.2.1.2.1
  have hq := qD_ok hD
  have h2 := hD.1
  have h8 := hD.2.1
  have e1 := E144 (d := 5) s0 m0.2.1
  rw [hk] at e1
  obtain ⟨sA, fA, mA⟩ := MV_de s0 m0 (oI none)
  have p1 : w_i (w_si (w_si (w_si w 26 0 0) 26 3 (oI none)) 26 1 0) 26 3 < 0 := by rw [mA.2.2.1]; decide
  have p2 : w_i (w_si (w_si w 26 0 0) 26 3 (oI none)) 26 1 - 2 = Int32.ofNat (D.length - 2) := by
    rw [w_i_ne (by decide), m0.2.1.1]
    exact i_sub (b := 2) h2
  obtain ⟨w5, e5, s5, f5, r5, i5⟩ := E147 (d := 5) sA mA.1
  have m5 := MV_Fr mA f5 (by decide) (by decide)
  have fB : Fr [] [(26, 12)] w5 (w_si w5 26 12 (Int32.ofNat (D.length - 2))) := Fr_si (by decide) _
  have sB : gk_Sh rr (w_si w5 26 12 (Int32.ofNat (D.length - 2))) := sh_si s5 ly_26 rfl _
  have iB : w_i (w_si w5 26 12 (Int32.ofNat (D.length - 2))) 26 12 = Int32.ofNat (D.length - 2) := w_i_same s5 ly_26 rfl
  have mB := MV_Fr m5 fB (by decide) (by decide)
  have h27 : w_a (w_si w5 26 12 (Int32.ofNat (D.length - 2))) 27 = w_a (w_si w 26 0 0) 27 := by
    rw [Fr_a fB (by decide), Fr_a f5 (by decide), Fr_a fA (by decide)]
  generalize hwB : w_si w5 26 12 (Int32.ofNat (D.length - 2)) = wB at fB sB iB mB h27
  have hRl : (qD D).2.length = D.length - 2 := by show ((D.drop 2).map sy).length = _; rw [List.length_map, List.length_drop]
  obtain ⟨wC, sC, fC, gC, zC⟩ := E143_l (d := 6) (R := (qD D).2) (by omega) hq.2.2 (D.length - 2) 0 wB sB (by omega) (by rw [iB, hRl]) (fun j s hj => by
    have hj' : ((D.drop 2).map sy)[j]? = some s := hj
    rw [List.getElem?_map, List.getElem?_drop] at hj'
    obtain ⟨c, hc, rfl⟩ := Option.map_eq_some_iff.mp hj'
    rw [h27, Nat.add_comm j 2, m0.2.1.2.2 _ c hc]
    exact (hD.2.2.2 _ c (by omega) hc).2.1) (fun j s hj => absurd hj (by omega))
  have mC := MV_Fr mB fC (by decide) (by decide)
  have e0 : f_145 ((w_a wC 27).getD 0 0) 72 = Int32.ofNat (qD D).1 := by
    rw [Fr_a fC (by decide), h27, m0.2.1.2.2 0 (D.getD 0 0) (by rw [List.getD_eq_getElem?_getD, List.getElem?_eq_getElem (by omega)]; rfl)]
    exact hD.2.2.1.2.1
  have i14 : w_i wC 26 14 = 0 := by rw [Fr_i fC (by decide), Fr_i fB (by decide)]; exact i5
  have i8 : w_i wC 26 8 = Int32.ofNat G.length := by rw [Fr_i fC (by decide), Fr_i fB (by decide)]; exact r5.1
  have i0 : w_i wC 26 0 = 0 := by rw [Fr_i fC (by decide), Fr_i fB (by decide), Fr_i f5 (by decide), Fr_i fA (by decide)]; exact m0_i hS
  obtain ⟨wE, v, eE, sE, fE, aE, vE⟩ := E149 (d := 4) sC (p := (false, G)) ⟨mC.1, hs, i14⟩ gC hq.1
  have hmk : mkR (qD D).1 (qD D).2 = some (qD D) := by unfold mkR; rw [if_pos hq.2.1]
  rw [hmk] at aE vE
  rw [← e0] at eE
  have j8 : w_i wE 26 8 = Int32.ofNat G.length := by rw [Fr_i fE (by decide)]; exact i8
  have j0 : w_i wE 26 0 = 0 := by rw [Fr_i fE (by decide)]; exact i0
  have fAll : Fr NA NF w wE := Fr_trans m0_fr (Fr_trans (fr_n fA) (Fr_trans (fr_n f5) (Fr_trans (fr_n fB) (Fr_trans (fr_n fC) (fr_n fE)))))
  have go : ∀ (r : gk_Res) (w' : gk_Wd), (((w_i wE 26 14) = 0 → (((w_i wE 26 4) = (w_i wE 26 8) → (r = .inl (some (.int v)) ∧ w' = wE)) ∧ (¬ ((w_i wE 26 4) = (w_i wE 26 8)) → (r = .inl (some (.int v)) ∧ w' = w_si wE 26 28 0)))) ∧ (¬ ((w_i wE 26 14) = 0) → (∃ (v9 : Int32), ∃ (w10 : gk_Wd), gk_E 6 146 [.ref 27, .int 2] wE (.inl (some (.int v9))) w10 ∧ gk_Sh rr w10 ∧ (r = .inl (some (.int v9)) ∧ w' = w10)))) → gk_E 7 143 [.ref 27] w r w' := fun r w' h => by
    refine gk_E_i rfl rfl (sg_143_0 (d := 6) hS ⟨_, e1, fun _ => ⟨w5, e5, s5, ?_⟩, fun q => absurd p1 q⟩)
    rw [p2, hwB]
    exact zC r w' (sg_143_49 (d := 6) sC _ ⟨fun _ => ⟨v, wE, eE, sE, h⟩, fun q => absurd (by rw [gC.1]; exact (i_le (by omega) (by omega)).mpr (Nat.le_refl _)) q⟩)
  refine ⟨fun hin => ?_, fun hin hl => ?_, fun hin hl => ?_⟩
  · have ea : addA (false, G) (some (qD D)) = (false, G) := by simp [addA, putR, hin]
    rw [ea] at aE vE
    have mE := MV_G mC fE aE.1 (by decide) (by decide)
    have ev := vE rfl
    refine ⟨wE, go _ _ ⟨fun _ => ⟨fun _ => ⟨by rw [ev], rfl⟩, fun q => absurd (by rw [aE.1.1, j8]) q⟩, fun q => absurd aE.2.2 q⟩, sE, fAll, mE, j0⟩
  · have ea : addA (false, G) (some (qD D)) = (false, insR (qD D) G) := by simp [addA, putR, hin, hl]
    rw [ea] at aE vE
    have mE := MV_fg sE (MV_G mC fE aE.1 (by decide) (by decide))
    have ev := vE rfl
    refine ⟨_, go _ _ ⟨fun _ => ⟨fun q => absurd q ?_, fun _ => ⟨by rw [ev], rfl⟩⟩, fun q => absurd aE.2.2 q⟩, ms_sh sE, Fr_trans fAll (fr_n ms_fr), mE, by rw [w_i_ne (by decide)]; exact j0⟩
    rw [aE.1.1, j8]
    show ¬ Int32.ofNat (insR (qD D) G).length = _
    rw [insR_len, i_eq (by omega) (by omega)]
    omega
  · have ea : addA (false, G) (some (qD D)) = (true, G) := by simp [addA, putR, hin, hl]
    rw [ea] at aE vE
    have mE := MV_G mC fE aE.1 (by decide) (by decide)
    have fF : Fr [] [(26, 0)] wE (w_si wE 26 0 2) := Fr_si (by decide) _
    have sF : gk_Sh rr (w_si wE 26 0 2) := sh_si sE ly_26 rfl _
    have n14 : ¬ w_i wE 26 14 = 0 := by rw [aE.2.2]; exact (by decide : ¬ bI true = 0)
    exact ⟨_, go _ _ ⟨fun q => absurd q n14, fun _ => ⟨_, _, E146 sE 2, sF, rfl, rfl⟩⟩, sF, Fr_trans fAll (fr_n fF), MV_Fr mE fF (by decide) (by decide), w_i_same sE ly_26 rfl⟩
/-- rule -/
theorem t_1 (hS : gk_Sh rr w) (hI : Inv w) (hn : ¬ ((Int32.ofNat xs.length) - 3) < x4) (hx : (xs.getD x4.toNatClampNeg 0) &&& 31 = 1) (o0 : gk_out x4 xs.length = false) : Tn xs rr w x4 := by
  obtain ⟨G, D, fa, wd, S, hc, hm⟩ := hI
  have lw := fun (r : gk_Res) (w' : gk_Wd) h => lw_op1 (r := r) (w' := w') hS x4 hn hx h
  have h60 := RS_60 hc.1
  cases hk : fpL D 0 with
  | some k =>
    have hb : k < 2147483648 := by
      have h1 := fpL_le hk
      have h2 := hc.2.2.1.2.1
      omega
    exact t_ex (c := 83) (m := 143) o0 lw (c_1f hS hc hk hb) (fun w1 r1 s1 f1 => m_1f s1 (MV_C hm f1) hk hb)
  | none =>
    obtain ⟨c1, c2, c3⟩ := c_1g hS hc hk
    by_cases hin : qD D ∈ G
    · exact t_ex (c := 83) (m := 143) o0 lw (c1 hin) (fun w1 r1 s1 f1 => (m_1g s1 hc.2.1 (MV_C hm f1) hk).1 hin)
    · by_cases hl : G.length < 60
      · exact t_ex (c := 83) (m := 143) o0 lw (c2 hin hl) (fun w1 r1 s1 f1 => (m_1g s1 hc.2.1 (MV_C hm f1) hk).2.1 hin hl)
      · exact t_ex (c := 83) (m := 143) o0 lw (c3 hin (by omega)) (fun w1 r1 s1 f1 => (m_1g s1 hc.2.1 (MV_C hm f1) hk).2.2 hin (by omega))
end RW3
