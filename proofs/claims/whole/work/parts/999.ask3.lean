/-! part 79: derive, shape: one turn of each -/
section AM
variable {xs : List Int32} {rr r1 : List gk_S} {w w' w1 w2 : gk_Wd} {G H K : List Rl} {D S : List Int32} {fa x4 : Int32} {wd : List Nat} {d : Nat}
theorem LQ_of {c f q n L : Nat} {g : Nat → Int32} (h1 : w_i w c f = Int32.ofNat L) (h2 : L ≤ n) (h3 : ∀ k, k < L → (w_a w q).getD k 0 = g k) : LQ w c f q n ((List.range L).map g) := by
  refine ⟨by rw [List.length_map, List.length_range]; exact h1, by rw [List.length_map, List.length_range]; exact h2, fun k x hx => ?_⟩
  rw [List.getElem?_map] at hx
  obtain ⟨s, hs, rfl⟩ := Option.map_eq_some_iff.mp hx
  have hk : k < (List.range L).length := (List.getElem?_eq_some_iff.mp hs).1
  rw [List.length_range] at hk
  rw [List.getElem?_range hk] at hs
  cases hs
  exact h3 k hk
theorem E136_l (hS : gk_Sh rr w) (hR : RS w 3 G) {r : gk_Res} {w' : gk_Wd} (hd : 5 ≤ d + 3) (h1 : G.all gbB = true → ∃ (v3 : Int32) (w4 : gk_Wd), gk_E (d + 2) 137 [.ref 20, .ref 4] w (.inl (some (.int v3))) w4 ∧ gk_Sh rr w4 ∧ ((¬ v3 = 0 → (r = .inl (some (.int (f_81 w4))) ∧ w' = w4)) ∧ (v3 = 0 → (5 ≤ (d + 3) ∧ r = .inr 9 ∧ w' = w4 ++ [.inl (9, [])])))) (h2 : G.all gbB = false → r = .inr 11 ∧ w' = w ++ [.inl (11, [])]) :
    ∀ (m k : Nat), k + m = G.length → (∀ (j : Nat) (hj : j < G.length), j < k → gbB G[j] = true) → gk_W none (d + 3) 136 2 [some (.ref 1), some (.int (Int32.ofNat k))] [] w r w'
  | 0, k, hk, hp => by
    have := RS_60 hR
    exact sg_136_2 (d := d + 2) hS _ ⟨fun _ => h1 (all_of fun j hj => hp j hj (by omega)), fun q => absurd ((RS_le hR (by omega)).mpr (by omega)) q⟩
  | m + 1, k, hk, hp => by
    have := RS_60 hR
    have hkl : k < G.length := by omega
    have hok := RS_ok hR hkl
    have ef : f_23 w 3 (Int32.ofNat k) = pk G[k] := RS_at hR hkl
    refine sg_136_2 (d := d + 2) hS _ ⟨fun q => absurd ((RS_le hR (by omega)).mp q) (by omega), fun _ => ⟨RS_out hR hkl, bI (gbB G[k]), by rw [ef]; exact E41 hS hok, fun q => ?_, fun q => ⟨hd, h2 (all_no hkl ?_)⟩⟩⟩
    · rw [bI_ne] at q
      rw [i_s]
      refine E136_l hS hR hd h1 h2 m (k + 1) (by omega) (fun j hj hjk => ?_)
      by_cases e : j = k
      · subst e; exact q
      · exact hp j hj (by omega)
    · exact fun q2 => bI_ne.mpr q2 q
def stS (wd : List Nat) (E : Nat → Nat → Int32) (G : List Rl) : List Int32 := (List.range wd.length).map fun k => Int32.ofNat (stp wd E G k)
theorem c_20n (hS : gk_Sh rr w) (hc : CV w G D fa wd S) (hG : ¬ G.all gbB = true) : CX 135 rr w 1 0 G D fa wd S := by
  have e2 : gk_E 6 136 [.ref 1] w (.inr 11) (w ++ [.inl (11, [])]) := gk_E_i rfl rfl (sg_136_0 (d := 5) hS (E136_l (d := 3) hS hc.1 (by omega) (fun q => absurd q hG) (fun _ => ⟨rfl, rfl⟩) G.length 0 (by omega) (fun j hj q => absurd q (by omega))))
  exact ⟨_, _, gk_E_i rfl rfl (sg_135_t11 (d := 6) hS ⟨_, _, e2, sh_thr hS 11, rfl, rfl⟩), sh_thr hS 11, Or.inr ⟨11, by simp, rfl⟩, Fr_thr 11, CV_Fr (A := []) (F := []) hc (Fr_thr 11) (by decide) (by decide), fun q => absurd q (by decide)⟩
theorem c_20y (hS : gk_Sh rr w) (hc : CV w G D fa wd S) (hG : G.all gbB = true) : ∃ E, isE wd G E ∧ CX 135 rr w (if bt (E 0 0) wd.length = true then 0 else 2) (if bt (E 0 0) wd.length = true then Int32.ofNat wd.length else 0) G D fa wd (if bt (E 0 0) wd.length = true then stS wd E G else []) := by
  have hW := hc.2.2.2.2.1
  obtain ⟨E, w1, a1, e1, s1, f1, h1, h2⟩ := E137 (d := 0) hS hc.1 hW (List.all_eq_true.mp hG)
  have c1 : ∀ S', LQ w1 19 6 24 10 S' → CV w1 G D fa wd S' := fun S' hl => ⟨RS_Fr hc.1 f1 (by decide) (by decide), hc.2.1, LQ_Fr hc.2.2.1 f1 (by decide) (by decide), by rw [Fr_i f1 (by decide)]; exact hc.2.2.2.1, WC_Fr hW f1 (by decide) (by decide), hl⟩
  refine ⟨E, a1, ?_⟩
  rcases hb : bt (E 0 0) wd.length with _ | _
  · rw [hb] at e1
    have e2 : gk_E 6 136 [.ref 1] w (.inr 9) (w1 ++ [.inl (9, [])]) := gk_E_i rfl rfl (sg_136_0 (d := 5) hS (E136_l (d := 3) hS hc.1 (by omega) (fun _ => ⟨_, w1, e1, s1, fun q => absurd rfl q, fun _ => ⟨by omega, rfl, rfl⟩⟩) (fun q => absurd hG (by rw [q]; decide)) G.length 0 (by omega) (fun j hj q => absurd q (by omega))))
    exact ⟨_, _, gk_E_i rfl rfl (sg_135_t9 (d := 6) hS ⟨_, _, e2, sh_thr s1 9, rfl, rfl⟩), sh_thr s1 9, Or.inr ⟨9, by simp, rfl⟩, Fr_trans (fr_c f1) (Fr_thr 9), CV_Fr (A := []) (F := []) (c1 [] (LQ_nil (h1 hb))) (Fr_thr 9) (by decide) (by decide), fun q => absurd q (by decide)⟩
  · rw [hb] at e1
    obtain ⟨i1, t1⟩ := h2 hb
    have e2 : gk_E 6 136 [.ref 1] w (.inl (some (.int (Int32.ofNat wd.length)))) w1 := gk_E_i rfl rfl (sg_136_0 (d := 5) hS (E136_l (d := 3) hS hc.1 (by omega) (fun _ => ⟨_, w1, e1, s1, fun _ => ⟨by rw [← i1]; rfl, rfl⟩, fun q => absurd q (by decide)⟩) (fun q => absurd hG (by rw [q]; decide)) G.length 0 (by omega) (fun j hj q => absurd q (by omega))))
    exact ⟨_, rr, gk_E_i rfl rfl (sg_135_ok (d := 6) hS ⟨_, w1, rr, e2, s1, rfl, rfl⟩), l54_sh s1 _, Or.inl rfl, Fr_trans (fr_c f1) (fr_c (l54_fr _)), CV_54 (c1 _ (LQ_of i1 hW.2.1 t1)) _, fun _ => l54_at s1 _⟩
theorem m_20n (hS : gk_Sh rr w) (hm : MV w G D fa wd S) (hG : ¬ G.all gbB = true) : MX 212 rr w 1 0 G D fa wd S := by
  have s0 := m0_sh hS
  have e1 := E191 (d := 5) s0 (m0_mv hm).1
  rw [Bool.eq_false_iff.mpr hG] at e1
  have s1 := sh_si s0 ly_26 (k := 0) rfl 1
  have f1 : Fr [] [(26, 0)] (w_si w 26 0 0) (w_si (w_si w 26 0 0) 26 0 1) := Fr_si (by decide) _
  exact ⟨_, gk_E_i rfl rfl (sg_212_0 (d := 6) hS ⟨_, e1, fun q => absurd rfl q, fun _ => ⟨_, _, E146 s0 1, s1, rfl, rfl⟩⟩), s1, Fr_trans m0_fr (fr_n f1), MV_Fr (m0_mv hm) f1 (by decide) (by decide), w_i_same s0 ly_26 rfl⟩
theorem m_20y (hS : gk_Sh rr w) (hm : MV w G D fa wd S) (hG : G.all gbB = true) : ∃ E, isE wd G E ∧ MX 212 rr w (if bt (E 0 0) wd.length = true then 0 else 2) (if bt (E 0 0) wd.length = true then Int32.ofNat wd.length else 0) G D fa wd (if bt (E 0 0) wd.length = true then stS wd E G else []) := by
  have hW := hm.2.2.2.1
  obtain ⟨E, w1, a1, e1, s1, f1, h1, h2⟩ := E212_y (d := 3) hS hm.1 hW hG
  have c1 : ∀ S', LQ w1 26 28 46 10 S' → MV w1 G D fa wd S' := fun S' hl => ⟨RM_Fr hm.1 f1 (by decide) (by decide), LQ_Fr hm.2.1 f1 (by decide) (by decide), by rw [Fr_i f1 (by decide)]; exact hm.2.2.1, WM_Fr hW f1 (by decide) (by decide), hl⟩
  refine ⟨E, a1, ?_⟩
  rcases hb : bt (E 0 0) wd.length with _ | _
  · rw [hb] at e1
    exact ⟨w1, e1, s1, fr_n f1, c1 [] (LQ_nil (h1 hb).2), (h1 hb).1⟩
  · rw [hb] at e1
    obtain ⟨i0, i1, t1⟩ := h2 hb
    exact ⟨w1, e1, s1, fr_n f1, c1 _ (LQ_of i1 hW.2.1 t1), i0⟩
theorem t_20 (hS : gk_Sh rr w) (hI : Inv w) (hn : ¬ ((Int32.ofNat xs.length) - 3) < x4) (hx : (xs.getD x4.toNatClampNeg 0) &&& 31 = 20) (o0 : gk_out x4 xs.length = false) : Tn xs rr w x4 := by
  obtain ⟨G, D, fa, wd, S, hc, hm⟩ := hI
  by_cases hG : G.all gbB = true
  · obtain ⟨E, a, hC⟩ := c_20y hS hc hG
    refine t_ex (c := 135) (m := 212) o0 (fun r w' h => lw_op20 hS x4 hn hx h) hC (fun w1 r1 s1 f1 => ?_)
    obtain ⟨E', a', hM⟩ := m_20y s1 (MV_C hm f1) hG
    obtain rfl := isE_uniq a a'
    exact hM
  · exact t_ex (c := 135) (m := 212) o0 (fun r w' h => lw_op20 hS x4 hn hx h) (c_20n hS hc hG) (fun w1 r1 s1 f1 => m_20n s1 (MV_C hm f1) hG)
/-- shape -/
def shV (a b c : Bool) : Int32 := ((4 ||| (if a = true then 1 else 0)) ||| (if b = true then 2 else 0)) ||| (if c = true then 8 else 0)
theorem shV_and (a b c a' b' c' : Bool) : shV a b c &&& shV a' b' c' = shV (a && a') (b && b') (c && c') := by
  cases a <;> cases b <;> cases c <;> cases a' <;> cases b' <;> cases c' <;> decide
theorem E38 (hS : gk_Sh rr w) {r : Rl} (hr : okR r) : gk_E (d + 3) 38 [.long (pk r)] w (.inl (some (.int (shV (neB r) (nuB r) (gbB r))))) w := by
  have e1 := E41 (d := d) hS hr
  have n1 : f_39 (pk r) = 0 ↔ neB r = true := by rw [f_39_pk hr]; unfold neB; simp
  have n2 : f_40 (pk r) = 0 ↔ nuB r = true := by rw [f_40_pk hr]; unfold nuB; simp
  generalize neB r = a at n1 ⊢
  generalize nuB r = b at n2 ⊢
  generalize gbB r = c at e1 ⊢
  refine gk_E_i rfl rfl (sg_38_0 (d := d + 1) hS _ ?_)
  rw [n1, n2]
  refine ⟨fun q => ⟨fun q2 => ⟨_, e1, fun q3 => ⟨v_eq ?_, rfl⟩, fun q3 => ⟨v_eq ?_, rfl⟩⟩, fun q2 => ⟨_, e1, fun q3 => ⟨v_eq ?_, rfl⟩, fun q3 => ⟨v_eq ?_, rfl⟩⟩⟩, fun q => ⟨fun q2 => ⟨_, e1, fun q3 => ⟨v_eq ?_, rfl⟩, fun q3 => ⟨v_eq ?_, rfl⟩⟩, fun q2 => ⟨_, e1, fun q3 => ⟨v_eq ?_, rfl⟩, fun q3 => ⟨v_eq ?_, rfl⟩⟩⟩⟩ <;> (clear n1 n2 e1; revert q q2 q3; cases a <;> cases b <;> cases c <;> decide)
theorem bI_eq0 {b : Bool} : bI b = 0 ↔ b = false := by cases b <;> decide
theorem all_take {p : Rl → Bool} {k : Nat} (hk : k < G.length) : (G.take (k + 1)).all p = ((G.take k).all p && p G[k]) := by
  rw [List.take_add_one, List.getElem?_eq_getElem hk, List.all_append]
  simp
theorem E37_l (hS : gk_Sh rr w) (hR : RS w 3 G) : ∀ (m k : Nat), k + m = G.length → ∀ (r : gk_Res) (w' : gk_Wd), gk_W none (d + 4) 37 5 [some (.ref 1), some (.int (shV (G.all neB) (G.all nuB) (G.all gbB))), some (.int (Int32.ofNat G.length))] [] w r w' → gk_W none (d + 4) 37 5 [some (.ref 1), some (.int (shV ((G.take k).all neB) ((G.take k).all nuB) ((G.take k).all gbB))), some (.int (Int32.ofNat k))] [] w r w'
  | 0, k, hk, r, w', h => by
    obtain rfl : k = G.length := by omega
    rw [List.take_length]; exact h
  | m + 1, k, hk, r, w', h => by
    have := RS_60 hR
    have hkl : k < G.length := by omega
    have ef : f_23 w 3 (Int32.ofNat k) = pk G[k] := RS_at hR hkl
    refine sg_37_5 (d := d + 3) hS _ _ ⟨fun q => absurd ((RS_le hR (by omega)).mp q) (by omega), fun _ => ⟨RS_out hR hkl, _, by rw [ef]; exact E38 hS (RS_ok hR hkl), ?_⟩⟩
    rw [shV_and, ← all_take hkl, ← all_take hkl, ← all_take hkl, i_s]
    exact E37_l hS hR m (k + 1) (by omega) r w' h
def shR (G : List Rl) (u : Bool) : Int32 := if u = true then shV (G.all neB) (G.all nuB) (G.all gbB) &&& (-5) else shV (G.all neB) (G.all nuB) (G.all gbB)
theorem ofN0 {n : Nat} (h : n ≤ 60) : Int32.ofNat n = 0 ↔ n = 0 := i_eq (b := 0) (by omega) (by omega)
theorem c_11 (hS : gk_Sh rr w) (hc : CV w G D fa wd S) : ∃ H, isU G H ∧ CC 37 [.ref 1] rr w (shR G (decide (G.length - H.length ≠ 0))) G D fa wd S := by
  have h60 := RS_60 hc.1
  obtain ⟨w1, e1, s1, f1, q1⟩ := E20 (d := 6) hS rs_5 rs_3 (by decide) hc.1
  obtain ⟨H, w2, u2, e2, s2, f2, q2⟩ := E30 (d := 2) s1 rs_5 q1
  have z := E37_l (d := 3) hS hc.1 G.length 0 (by omega)
  have e15 : shV ((G.take 0).all neB) ((G.take 0).all nuB) ((G.take 0).all gbB) = 15 := by rw [List.take_zero]; decide
  rw [e15] at z
  refine ⟨H, u2, w2, gk_E_i rfl rfl (sg_37_0 (d := 6) hS (z _ _ (sg_37_5 (d := 6) hS _ _ ⟨fun _ => ⟨w1, e1, s1, _, w2, e2, s2, fun q => ⟨?_, rfl⟩, fun q => ⟨?_, rfl⟩⟩, fun q => absurd ((RS_le hc.1 (by omega)).mpr (Nat.le_refl _)) q⟩))), s2, Fr_trans (fr_c f1) (fr_c f2), CV_Fr (CV_Fr hc f1 (by decide) (by decide)) f2 (by decide) (by decide)⟩
  · rw [ofN0 (by omega)] at q
    unfold shR
    rw [if_pos (decide_eq_true q)]
  · rw [ofN0 (by omega)] at q
    unfold shR
    rw [if_neg (by rw [q]; decide)]
theorem any_drop {p : Rl → Bool} {k : Nat} (hk : k < G.length) : (G.drop k).any p = (p G[k] || (G.drop (k + 1)).any p) := by
  rw [List.drop_eq_getElem_cons hk, List.any_cons]
theorem E190_l (hS : gk_Sh rr w) (hR : RM w 4 28 G) : ∀ (m k : Nat) (e u : Bool), k + m = G.length → ∀ (r : gk_Res) (w' : gk_Wd), gk_W none (d + 2) 190 11 [some (.ref 27), some (.int (bI (e || (G.drop k).any fun r => !neB r))), some (.int (bI (u || (G.drop k).any unB))), some (.int (Int32.ofNat G.length)), none] [] w r w' → gk_W none (d + 2) 190 11 [some (.ref 27), some (.int (bI e)), some (.int (bI u)), some (.int (Int32.ofNat k)), none] [] w r w'
  | 0, k, e, u, hk, r, w', h => by
    obtain rfl : k = G.length := by omega
    rw [List.drop_length, List.any_nil, List.any_nil, Bool.or_false, Bool.or_false] at h
    exact h
  | m + 1, k, e, u, hk, r, w', h => by
    have := RM_60 hR
    have hkl : k < G.length := by omega
    have hok := RM_ok hR hkl
    have h10 := hok.2.1
    have h179 := f_179_M hR hkl
    have ih := fun e u => E190_l hS hR m (k + 1) e u (by omega) r w'
    rw [any_drop hkl, any_drop hkl, ← Bool.or_assoc, ← Bool.or_assoc] at h
    have h' := ih _ _ h
    have el : (w_a w 29).getD (Int32.ofNat k).toNatClampNeg 0 = 0 ↔ neB G[k] = false := by
      rw [i_nat (by omega), (hR.2.2.2 k _ (List.getElem?_eq_getElem hkl)).2.1, ofN0 (by omega)]
      unfold neB; simp
    refine sg_190_11 hS _ _ _ ⟨fun q => absurd ((RM_le hR (by omega)).mp q) (by omega), fun _ => ?_⟩
    rw [h179, i_s, el, bI_eq0, bI_eq0]
    generalize neB G[k] = a at h'
    generalize unB G[k] = b at h'
    have o1 := RM_out hR hkl
    have o2 := f_179_o hR hkl
    refine ⟨fun q1 => ⟨fun q2 => ?_, fun q2 => ⟨o1, o2, fun q3 => ?_, fun q3 => ?_⟩⟩, fun q1 => ⟨o1, fun q4 => ⟨fun q2 => ?_, fun q2 => ⟨o1, o2, fun q3 => ?_, fun q3 => ?_⟩⟩, fun q4 => ⟨fun q2 => ?_, fun q2 => ⟨o1, o2, fun q3 => ?_, fun q3 => ?_⟩⟩⟩⟩ <;> (clear ih h hk h179 el o1 o2) <;> (cases e <;> cases u <;> cases a <;> cases b <;> first | exact h' | exact absurd rfl q1 | exact absurd rfl q2 | exact absurd rfl q3 | exact absurd rfl q4 | (cases q1; done) | (cases q2; done) | (cases q3; done) | (cases q4; done))
end AM
