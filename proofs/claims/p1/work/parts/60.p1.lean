/-! scripts of at most three ints: one call on a fresh object -/
def gk_css (s : gk_S) : Nat := match s with
  | .inl o => gp_nsl o.1
  | .inr (.inl a) => a.2
  | .inr (.inr n) => n
theorem gk_css_eq (c : gk_AC) : gk_cs gp_nsl c = gk_css (gk_shp c) := by
  match c with
  | .inl o => rfl
  | .inr (.inl a) => rfl
  | .inr (.inr a) => rfl
def gp_Sm (rr : List gk_S) : Prop := rr.length ≤ 1 ∧ (rr.map gk_css).sum ≤ 6
theorem gp_Sm_nil : gp_Sm [] := by unfold gp_Sm; decide
theorem gk_Sh_room {rr : List gk_S} {w : gk_Wd} (hS : gk_Sh rr w) : w.length = 55 + rr.length ∧ gk_sl gp_nsl w = (gp_lay.map gk_css).sum + (rr.map gk_css).sum := by
  constructor
  · have := congrArg List.length hS
    rw [List.length_map, List.length_append] at this
    exact this
  · have e : w.map (gk_cs gp_nsl) = (w.map gk_shp).map gk_css := by
      rw [List.map_map]
      exact List.map_congr_left (fun c _ => gk_css_eq c)
    unfold gk_sl
    rw [e, hS, List.map_append, List.sum_append]
theorem gp_lay_sum : (gp_lay.map gk_css).sum ≤ 10000 := by decide +kernel
def ck_sh (w : gk_Wd) : Bool := decide ((w.map gk_shp).take 55 = gp_lay)
theorem ck_sh_ok {w : gk_Wd} (h : ck_sh w = true) : gk_Sh ((w.map gk_shp).drop 55) w := by
  have h := of_decide_eq_true h
  unfold gk_Sh
  rw [← h, List.take_append_drop]
def ck_sm (w : gk_Wd) : Bool := decide (((w.map gk_shp).drop 55).length ≤ 1) && decide ((((w.map gk_shp).drop 55).map gk_css).sum ≤ 6)
theorem ck_sm_ok {w : gk_Wd} (h : ck_sm w = true) : gp_Sm ((w.map gk_shp).drop 55) := by
  unfold ck_sm at h
  simp only [Bool.and_eq_true, decide_eq_true_eq] at h
  exact h
def ck_c (mj : Nat) (as : List Value) (w : gk_Wd) : Option (Int32 × gk_Wd) := match gk_run gp_P 40000 none 7 mj 0 (gk_entry as (gk_inf gp_P mj).1) [] w with
  | some (.inl (some (.int v)), w1) => bif ck_sh w1 then some (v, w1) else none
  | _ => none
theorem ck_c_ok {mj : Nat} {as : List Value} {w : gk_Wd} {q : Int32 × gk_Wd} (hf : Nat.ble (as.flatMap gk_slots).length (gk_inf gp_P mj).1 = true) (h : ck_c mj as w = some q) : gk_E 7 mj as w (.inl (some (.int q.1))) q.2 ∧ gk_Sh ((q.2.map gk_shp).drop 55) q.2 := by
  unfold ck_c at h
  split at h
  · rename_i v w1 hr
    cases hc : ck_sh w1 with
    | true =>
      rw [hc] at h
      cases h
      exact ⟨⟨Nat.le_of_ble_eq_true hf, _, hr⟩, ck_sh_ok hc⟩
    | false => rw [hc] at h; cases h
  · cases h
def ck2 (mj : Nat) (as : List Value) (mk : Nat) (bs : List Value) : Bool := match ck_c mj as gp_w0 with
  | some q => (match ck_c mk bs q.2 with
    | some p => decide (q.1 = p.1) && ck_sm p.2
    | none => false)
  | none => false
def ck2_P (mj : Nat) (as : List Value) (mk : Nat) (bs : List Value) : Prop := ∃ (v : Int32) (w1 : gk_Wd) (rr1 : List gk_S) (w2 : gk_Wd) (rr2 : List gk_S), gk_E 7 mj as gp_w0 (.inl (some (.int v))) w1 ∧ gk_Sh rr1 w1 ∧ gk_E 7 mk bs w1 (.inl (some (.int v))) w2 ∧ gk_Sh rr2 w2 ∧ gp_Sm rr2
theorem ck2_ok {mj : Nat} {as : List Value} {mk : Nat} {bs : List Value} (hf : Nat.ble (as.flatMap gk_slots).length (gk_inf gp_P mj).1 = true) (hg : Nat.ble (bs.flatMap gk_slots).length (gk_inf gp_P mk).1 = true) (h : ck2 mj as mk bs = true) : ck2_P mj as mk bs := by
  unfold ck2 at h
  split at h
  · rename_i q hq
    split at h
    · rename_i p hp
      simp only [Bool.and_eq_true, decide_eq_true_eq] at h
      obtain ⟨a1, a2⟩ := ck_c_ok hf hq
      obtain ⟨b1, b2⟩ := ck_c_ok hg hp
      rw [← h.1] at b1
      exact ⟨q.1, q.2, _, p.2, _, a1, a2, b1, b2, ck_sm_ok h.2⟩
    · cases h
  · cases h
def ck3 (mj mk : Nat) : Bool := match ck_c mj [.ref 1, .ref 55] gp_w0 with
  | some q => (match ck_c mk [.ref 27] q.2 with
    | some p => (match ck_c 141 [.ref 27] p.2 with
      | some t => decide (t.1 = q.1) && (decide (¬ q.1 = 0) || decide (lg_cmp ((w_l t.2 54).getD 0 0) p.1.toInt64 = 0)) && ck_sm t.2
      | none => false)
    | none => false)
  | none => false
theorem ck3_ok {mj mk : Nat} (hf : Nat.ble (([.ref 1, .ref 55] : List Value).flatMap gk_slots).length (gk_inf gp_P mj).1 = true) (hg : Nat.ble (([.ref 27] : List Value).flatMap gk_slots).length (gk_inf gp_P mk).1 = true) (h : ck3 mj mk = true) : ∃ (v : Int32) (w1 : gk_Wd) (rr1 : List gk_S) (u : Int32) (w2 : gk_Wd) (rr2 : List gk_S) (w3 : gk_Wd) (rr3 : List gk_S), gk_E 7 mj [.ref 1, .ref 55] gp_w0 (.inl (some (.int v))) w1 ∧ gk_Sh rr1 w1 ∧ gk_E 7 mk [.ref 27] w1 (.inl (some (.int u))) w2 ∧ gk_Sh rr2 w2 ∧ gk_E 7 141 [.ref 27] w2 (.inl (some (.int v))) w3 ∧ gk_Sh rr3 w3 ∧ gp_Sm rr3 ∧ (¬ v = 0 ∨ lg_cmp ((w_l w3 54).getD 0 0) u.toInt64 = 0) := by
  unfold ck3 at h
  split at h
  · rename_i q hq
    split at h
    · rename_i p hp
      split at h
      · rename_i t ht
        simp only [Bool.and_eq_true, Bool.or_eq_true, decide_eq_true_eq] at h
        obtain ⟨a1, a2⟩ := ck_c_ok hf hq
        obtain ⟨b1, b2⟩ := ck_c_ok hg hp
        obtain ⟨c1, c2⟩ := ck_c_ok rfl ht
        rw [h.1.1] at c1
        exact ⟨q.1, q.2, _, p.1, p.2, _, t.2, _, a1, a2, b1, b2, c1, c2, ck_sm_ok h.2, h.1.2⟩
      · cases h
    · cases h
  · cases h
abbrev p_l (x : Int32) : gk_Lc := [some (.ref 0), some (.ref 1), some (.ref 27), some (.ref 55), some (.int x), none, none]
theorem p_fin {a b c : Int32} {rr : List gk_S} {w : gk_Wd} (hS : gk_Sh rr w) : gk_W (some [a, b, c]) 8 0 23 (p_l (0 + 3)) [] w (.inl (some (.int 1))) w := lw_end hS (0 + 3) (show Int32.ofNat 3 - 3 < 0 + 3 by decide) ⟨rfl, rfl⟩
def p_one (a b c : Int32) : Prop := ∃ (rr : List gk_S) (w : gk_Wd), gk_Sh rr w ∧ gp_Sm rr ∧ gk_W (some [a, b, c]) 8 0 23 (p_l 0) [] gp_w0 (.inl (some (.int 1))) w
theorem p_hn (a b c : Int32) : ¬ ((Int32.ofNat [a, b, c].length) - 3) < (0 : Int32) := show ¬ (Int32.ofNat 3 - 3 < 0) by decide
theorem p_ck_2 : ck2 11 [.ref 1] 153 [.ref 27] = true := by decide +kernel
theorem p_op2 {a b c : Int32} (hx : a &&& 31 = 2) : p_one a b c := by
  obtain ⟨v, w1, rr1, w2, rr2, e1, s1, e2, s2, sm⟩ := ck2_ok rfl rfl p_ck_2
  exact ⟨rr2, w2, s2, sm, lw_op2 gp_w0_sh 0 (p_hn a b c) hx ⟨rfl, v, w1, rr1, e1, s1, v, w2, rr2, e2, s2, fun _ => p_fin s2, fun h => absurd rfl h⟩⟩
theorem p_ck_4 : ck2 16 [.ref 1] 156 [.ref 27] = true := by decide +kernel
theorem p_op4 {a b c : Int32} (hx : a &&& 31 = 4) : p_one a b c := by
  obtain ⟨v, w1, rr1, w2, rr2, e1, s1, e2, s2, sm⟩ := ck2_ok rfl rfl p_ck_4
  exact ⟨rr2, w2, s2, sm, lw_op4 gp_w0_sh 0 (p_hn a b c) hx ⟨rfl, v, w1, rr1, e1, s1, v, w2, rr2, e2, s2, fun _ => p_fin s2, fun h => absurd rfl h⟩⟩
theorem p_ck_5 : ck2 21 [.ref 1] 157 [.ref 27] = true := by decide +kernel
theorem p_op5 {a b c : Int32} (hx : a &&& 31 = 5) : p_one a b c := by
  obtain ⟨v, w1, rr1, w2, rr2, e1, s1, e2, s2, sm⟩ := ck2_ok rfl rfl p_ck_5
  exact ⟨rr2, w2, s2, sm, lw_op5 gp_w0_sh 0 (p_hn a b c) hx ⟨rfl, v, w1, rr1, e1, s1, v, w2, rr2, e2, s2, fun _ => p_fin s2, fun h => absurd rfl h⟩⟩
theorem p_ck_7 : ck2 29 [.ref 1] 160 [.ref 27] = true := by decide +kernel
theorem p_op7 {a b c : Int32} (hx : a &&& 31 = 7) : p_one a b c := by
  obtain ⟨v, w1, rr1, w2, rr2, e1, s1, e2, s2, sm⟩ := ck2_ok rfl rfl p_ck_7
  exact ⟨rr2, w2, s2, sm, lw_op7 gp_w0_sh 0 (p_hn a b c) hx ⟨rfl, v, w1, rr1, e1, s1, v, w2, rr2, e2, s2, fun _ => p_fin s2, fun h => absurd rfl h⟩⟩
theorem p_ck_11 : ck2 37 [.ref 1] 190 [.ref 27] = true := by decide +kernel
theorem p_op11 {a b c : Int32} (hx : a &&& 31 = 11) : p_one a b c := by
  obtain ⟨v, w1, rr1, w2, rr2, e1, s1, e2, s2, sm⟩ := ck2_ok rfl rfl p_ck_11
  exact ⟨rr2, w2, s2, sm, lw_op11 gp_w0_sh 0 (p_hn a b c) hx ⟨rfl, v, w1, rr1, e1, s1, v, w2, rr2, e2, s2, fun _ => p_fin s2, fun h => absurd rfl h⟩⟩
theorem p_ck_15 : ck2 63 [.ref 1] 201 [.ref 27] = true := by decide +kernel
theorem p_op15 {a b c : Int32} (hx : a &&& 31 = 15) : p_one a b c := by
  obtain ⟨v, w1, rr1, w2, rr2, e1, s1, e2, s2, sm⟩ := ck2_ok rfl rfl p_ck_15
  exact ⟨rr2, w2, s2, sm, lw_op15 gp_w0_sh 0 (p_hn a b c) hx ⟨rfl, v, w1, rr1, e1, s1, v, w2, rr2, e2, s2, fun _ => p_fin s2, fun h => absurd rfl h⟩⟩
theorem p_ck_17 : ck2 70 [.ref 1] 204 [.ref 27] = true := by decide +kernel
theorem p_op17 {a b c : Int32} (hx : a &&& 31 = 17) : p_one a b c := by
  obtain ⟨v, w1, rr1, w2, rr2, e1, s1, e2, s2, sm⟩ := ck2_ok rfl rfl p_ck_17
  exact ⟨rr2, w2, s2, sm, lw_op17 gp_w0_sh 0 (p_hn a b c) hx ⟨rfl, v, w1, rr1, e1, s1, v, w2, rr2, e2, s2, fun _ => p_fin s2, fun h => absurd rfl h⟩⟩
theorem p_ck_18 : ck2 72 [.ref 1] 205 [.ref 27] = true := by decide +kernel
theorem p_op18 {a b c : Int32} (hx : a &&& 31 = 18) : p_one a b c := by
  obtain ⟨v, w1, rr1, w2, rr2, e1, s1, e2, s2, sm⟩ := ck2_ok rfl rfl p_ck_18
  exact ⟨rr2, w2, s2, sm, lw_op18 gp_w0_sh 0 (p_hn a b c) hx ⟨rfl, v, w1, rr1, e1, s1, v, w2, rr2, e2, s2, fun _ => p_fin s2, fun h => absurd rfl h⟩⟩
theorem p_ck_1 : ck3 83 143 = true := by decide +kernel
theorem p_op1 {a b c : Int32} (hx : a &&& 31 = 1) : p_one a b c := by
  obtain ⟨v, w1, rr1, u, w2, rr2, w3, rr3, e1, s1, e2, s2, e3, s3, sm, hv⟩ := ck3_ok rfl rfl p_ck_1
  refine ⟨rr3, w3, s3, sm, lw_op1 gp_w0_sh 0 (p_hn a b c) hx ⟨rfl, v, w1, rr1, e1, s1, u, w2, rr2, e2, s2, v, w3, rr3, e3, s3, fun _ => ⟨fun _ => p_fin s3, fun h0 => ⟨fun _ => p_fin s3, fun h => ?_⟩⟩, fun h => absurd rfl h⟩⟩
  rcases hv with hv | hv
  · exact absurd hv h0
  · exact absurd hv h
theorem p_ck_8 : ck3 95 166 = true := by decide +kernel
theorem p_op8 {a b c : Int32} (hx : a &&& 31 = 8) : p_one a b c := by
  obtain ⟨v, w1, rr1, u, w2, rr2, w3, rr3, e1, s1, e2, s2, e3, s3, sm, hv⟩ := ck3_ok rfl rfl p_ck_8
  refine ⟨rr3, w3, s3, sm, lw_op8 gp_w0_sh 0 (p_hn a b c) hx ⟨rfl, v, w1, rr1, e1, s1, u, w2, rr2, e2, s2, v, w3, rr3, e3, s3, fun _ => ⟨fun _ => p_fin s3, fun h0 => ⟨fun _ => p_fin s3, fun h => ?_⟩⟩, fun h => absurd rfl h⟩⟩
  rcases hv with hv | hv
  · exact absurd hv h0
  · exact absurd hv h
theorem p_ck_9 : ck3 100 176 = true := by decide +kernel
theorem p_op9 {a b c : Int32} (hx : a &&& 31 = 9) : p_one a b c := by
  obtain ⟨v, w1, rr1, u, w2, rr2, w3, rr3, e1, s1, e2, s2, e3, s3, sm, hv⟩ := ck3_ok rfl rfl p_ck_9
  refine ⟨rr3, w3, s3, sm, lw_op9 gp_w0_sh 0 (p_hn a b c) hx ⟨rfl, v, w1, rr1, e1, s1, u, w2, rr2, e2, s2, v, w3, rr3, e3, s3, fun _ => ⟨fun _ => p_fin s3, fun h0 => ⟨fun _ => p_fin s3, fun h => ?_⟩⟩, fun h => absurd rfl h⟩⟩
  rcases hv with hv | hv
  · exact absurd hv h0
  · exact absurd hv h
theorem p_ck_10 : ck3 106 180 = true := by decide +kernel
theorem p_op10 {a b c : Int32} (hx : a &&& 31 = 10) : p_one a b c := by
  obtain ⟨v, w1, rr1, u, w2, rr2, w3, rr3, e1, s1, e2, s2, e3, s3, sm, hv⟩ := ck3_ok rfl rfl p_ck_10
  refine ⟨rr3, w3, s3, sm, lw_op10 gp_w0_sh 0 (p_hn a b c) hx ⟨rfl, v, w1, rr1, e1, s1, u, w2, rr2, e2, s2, v, w3, rr3, e3, s3, fun _ => ⟨fun _ => p_fin s3, fun h0 => ⟨fun _ => p_fin s3, fun h => ?_⟩⟩, fun h => absurd rfl h⟩⟩
  rcases hv with hv | hv
  · exact absurd hv h0
  · exact absurd hv h
theorem p_ck_20 : ck3 135 212 = true := by decide +kernel
theorem p_op20 {a b c : Int32} (hx : a &&& 31 = 20) : p_one a b c := by
  obtain ⟨v, w1, rr1, u, w2, rr2, w3, rr3, e1, s1, e2, s2, e3, s3, sm, hv⟩ := ck3_ok rfl rfl p_ck_20
  refine ⟨rr3, w3, s3, sm, lw_op20 gp_w0_sh 0 (p_hn a b c) hx ⟨rfl, v, w1, rr1, e1, s1, u, w2, rr2, e2, s2, v, w3, rr3, e3, s3, fun _ => ⟨fun _ => p_fin s3, fun h0 => ⟨fun _ => p_fin s3, fun h => ?_⟩⟩, fun h => absurd rfl h⟩⟩
  rcases hv with hv | hv
  · exact absurd hv h0
  · exact absurd hv h
def gk_oe1 (o : gk_Out) (v : Int32) (w : gk_Wd) : Bool := match o with
  | some (.inl (some (.int x)), w') => (x == v) && gk_leq gk_ceq w' w
  | _ => false
theorem gk_oe1_ok {o : gk_Out} {v : Int32} {w : gk_Wd} (h : gk_oe1 o v w = true) : o = some (.inl (some (.int v)), w) := by
  unfold gk_oe1 at h
  split at h
  · simp only [Bool.and_eq_true, beq_iff_eq] at h
    rw [h.1, gk_leq_ok (fun _ _ => gk_ceq_ok) h.2]
  · cases h
def p_wm : gk_Wd := w_si gp_w0 26 0 0
theorem p_wm0 : gk_leq gk_ceq p_wm gp_w0 = true := by decide +kernel
theorem p_wm1 : p_wm = gp_w0 := gk_leq_ok (fun _ _ => gk_ceq_ok) p_wm0
theorem p_wm2 : gk_leq gk_ceq (w_sa gp_w0 45 (List.replicate 1936 0)) gp_w0 = true := by decide +kernel
theorem p_wm3 : w_sa gp_w0 45 (List.replicate 1936 0) = gp_w0 := gk_leq_ok (fun _ _ => gk_ceq_ok) p_wm2
theorem p_wm4 : w_a gp_w0 45 = List.replicate 1936 0 := rfl
theorem p_zero {d : Nat} {w' : gk_Wd} {r : gk_Res} (h : gk_W none (d + 2) 208 76 [some (.ref 27), some (.int 1), none, none, none] [] gp_w0 r w') : ∀ (m k : Nat), k + m = 1936 → gk_W none (d + 2) 208 54 [some (.ref 27), some (.int (Int32.ofNat k)), none, none, none] [] gp_w0 r w'
  | 0, k, hk => sg_208_54 gp_w0_sh _ ⟨fun _ => h, fun q => absurd ((i_le (a := 1936) (by omega) (by omega)).mpr (by omega)) q⟩
  | m + 1, k, hk => by
    refine sg_208_54 gp_w0_sh _ ⟨fun q => ?_, fun _ => ⟨o_ok (by omega) (by omega), ?_⟩⟩
    · exact absurd ((i_le (a := 1936) (by omega) (by omega)).mp q) (by omega)
    · rw [i_s, p_wm4, List.set_replicate_self, p_wm3]
      exact p_zero h m (k + 1) (by omega)
theorem p_ways : gk_E 7 208 [.ref 27] gp_w0 (.inl (some (.int 0))) gp_w0 := gk_E_i rfl rfl (sg_208_0 (d := 5) gp_w0_sh (by
  show gk_W none 7 208 7 [some (.ref 27), some (.int 0), none, none, none] [] p_wm _ _
  rw [p_wm1]
  refine sg_208_7 (d := 5) gp_w0_sh 0 ⟨fun _ => ⟨fun _ => p_zero (d := 5) ?_ 1936 0 rfl, fun q => absurd rfl q⟩, fun q => absurd (show (0 : Int32) ≤ 0 by decide) q⟩
  exact sg_208_76 (d := 5) gp_w0_sh 1 ⟨fun _ => ⟨rfl, rfl, rfl⟩, fun q => absurd (show (0 : Int32) < 1 by decide) q⟩))
theorem p_cways : gk_E 7 127 [.ref 1, .ref 55] gp_w0 (.inl (some (.int 0))) gp_w0 := ⟨Nat.le_of_ble_eq_true rfl, 4000, gk_oe1_ok (by decide +kernel)⟩
theorem p_op19 {a b c : Int32} (hx : a &&& 31 = 19) : p_one a b c := ⟨[], gp_w0, gp_w0_sh, gp_Sm_nil, lw_op19 gp_w0_sh 0 (p_hn a b c) hx ⟨rfl, 0, gp_w0, [], p_cways, gp_w0_sh, 0, gp_w0, [], p_ways, gp_w0_sh, 0, gp_w0, [], f_141_E gp_w0_sh, gp_w0_sh, fun _ => ⟨fun _ => p_fin gp_w0_sh, fun _ => ⟨fun _ => p_fin gp_w0_sh, fun h => absurd (show lg_cmp 0 (0 : Int32).toInt64 = 0 by decide) h⟩⟩, fun h => absurd rfl h⟩⟩
theorem p_op22 {a b c : Int32} (hx : a &&& 31 = 22) : p_one a b c := ⟨[], gp_w0, gp_w0_sh, gp_Sm_nil, lw_op22 gp_w0_sh 0 (p_hn a b c) hx ⟨rfl, p_fin gp_w0_sh⟩⟩
theorem p_op23 {a b c : Int32} (hx : a &&& 31 = 23) : p_one a b c := ⟨[], gp_w0, gp_w0_sh, gp_Sm_nil, lw_op23 gp_w0_sh 0 (p_hn a b c) hx ⟨rfl, p_fin gp_w0_sh⟩⟩
theorem p_op24 {a b c : Int32} (hx : a &&& 31 = 24) : p_one a b c := ⟨[], gp_w0, gp_w0_sh, gp_Sm_nil, lw_op24 gp_w0_sh 0 (p_hn a b c) hx ⟨rfl, p_fin gp_w0_sh⟩⟩
theorem p_op25 {a b c : Int32} (hx : a &&& 31 = 25) : p_one a b c := ⟨[], gp_w0, gp_w0_sh, gp_Sm_nil, lw_op25 gp_w0_sh 0 (p_hn a b c) hx ⟨rfl, p_fin gp_w0_sh⟩⟩
theorem p_op26 {a b c : Int32} (hx : a &&& 31 = 26) : p_one a b c := ⟨[], gp_w0, gp_w0_sh, gp_Sm_nil, lw_op26 gp_w0_sh 0 (p_hn a b c) hx ⟨rfl, p_fin gp_w0_sh⟩⟩
theorem p_op27 {a b c : Int32} (hx : a &&& 31 = 27) : p_one a b c := ⟨[], gp_w0, gp_w0_sh, gp_Sm_nil, lw_op27 gp_w0_sh 0 (p_hn a b c) hx ⟨rfl, p_fin gp_w0_sh⟩⟩
theorem p_op28 {a b c : Int32} (hx : a &&& 31 = 28) : p_one a b c := ⟨[], gp_w0, gp_w0_sh, gp_Sm_nil, lw_op28 gp_w0_sh 0 (p_hn a b c) hx ⟨rfl, p_fin gp_w0_sh⟩⟩
theorem p_op29 {a b c : Int32} (hx : a &&& 31 = 29) : p_one a b c := ⟨[], gp_w0, gp_w0_sh, gp_Sm_nil, lw_op29 gp_w0_sh 0 (p_hn a b c) hx ⟨rfl, p_fin gp_w0_sh⟩⟩
theorem p_op30 {a b c : Int32} (hx : a &&& 31 = 30) : p_one a b c := ⟨[], gp_w0, gp_w0_sh, gp_Sm_nil, lw_op30 gp_w0_sh 0 (p_hn a b c) hx ⟨rfl, p_fin gp_w0_sh⟩⟩
theorem p_op31 {a b c : Int32} (hx : a &&& 31 = 31) : p_one a b c := ⟨[], gp_w0, gp_w0_sh, gp_Sm_nil, lw_op31 gp_w0_sh 0 (p_hn a b c) hx ⟨rfl, p_fin gp_w0_sh⟩⟩
/-- calls with one argument: what both answer -/
def p_two (mj mk : Nat) (as bs : List Value) : Prop := ∃ (v : Int32) (w1 : gk_Wd) (rr1 : List gk_S) (w2 : gk_Wd) (rr2 : List gk_S), gk_E 7 mj as gp_w0 (.inl (some (.int v))) w1 ∧ gk_Sh rr1 w1 ∧ gk_E 7 mk bs w1 (.inl (some (.int v))) w2 ∧ gk_Sh rr2 w2 ∧ gp_Sm rr2
theorem p_m0 : gk_Sh [] (w_si gp_w0 26 0 0) := sh_si gp_w0_sh ly_26 (k := 0) rfl 0
theorem p_go3 {a b c : Int32} (hx : a &&& 31 = 3) (h : p_two 12 154 [.ref 1, .int b] [.ref 27, .int b]) : p_one a b c := by
  obtain ⟨v, w1, rr1, w2, rr2, e1, s1, e2, s2, sm⟩ := h
  exact ⟨rr2, w2, s2, sm, lw_op3 gp_w0_sh 0 (p_hn a b c) hx ⟨rfl, rfl, v, w1, rr1, e1, s1, rfl, v, w2, rr2, e2, s2, fun _ => p_fin s2, fun h => absurd rfl h⟩⟩
theorem p_go12 {a b c : Int32} (hx : a &&& 31 = 12) (h : p_two 43 192 [.ref 1, .int b] [.ref 27, .int b]) : p_one a b c := by
  obtain ⟨v, w1, rr1, w2, rr2, e1, s1, e2, s2, sm⟩ := h
  exact ⟨rr2, w2, s2, sm, lw_op12 gp_w0_sh 0 (p_hn a b c) hx ⟨rfl, rfl, v, w1, rr1, e1, s1, rfl, v, w2, rr2, e2, s2, fun _ => p_fin s2, fun h => absurd rfl h⟩⟩
theorem p_go21 {a b c : Int32} (hx : a &&& 31 = 21) (h : p_two 80 215 [.ref 1, .int b] [.ref 27, .int b]) : p_one a b c := by
  obtain ⟨v, w1, rr1, w2, rr2, e1, s1, e2, s2, sm⟩ := h
  exact ⟨rr2, w2, s2, sm, lw_op21 gp_w0_sh 0 (p_hn a b c) hx ⟨rfl, rfl, v, w1, rr1, e1, s1, rfl, v, w2, rr2, e2, s2, fun _ => p_fin s2, fun h => absurd rfl h⟩⟩
theorem p_go0 {a b c : Int32} (hx : a &&& 31 = 0) (h : p_two 9 142 [.ref 1, .int (b.toUInt32 % 65536).toInt32] [.ref 27, .int (b.toUInt32 % 65536).toInt32]) : p_one a b c := by
  obtain ⟨v, w1, rr1, w2, rr2, e1, s1, e2, s2, sm⟩ := h
  exact ⟨rr2, w2, s2, sm, lw_op0 gp_w0_sh 0 (p_hn a b c) hx ⟨rfl, rfl, v, w1, rr1, e1, s1, rfl, v, w2, rr2, e2, s2, fun _ => p_fin s2, fun h => absurd rfl h⟩⟩
theorem p_go13 {a b c : Int32} (hx : a &&& 31 = 13) (h : p_two 51 195 [.ref 1, .int (b.toUInt32 % 65536).toInt32] [.ref 27, .int (b.toUInt32 % 65536).toInt32]) : p_one a b c := by
  obtain ⟨v, w1, rr1, w2, rr2, e1, s1, e2, s2, sm⟩ := h
  exact ⟨rr2, w2, s2, sm, lw_op13 gp_w0_sh 0 (p_hn a b c) hx ⟨rfl, rfl, v, w1, rr1, e1, s1, rfl, v, w2, rr2, e2, s2, fun _ => p_fin s2, fun h => absurd rfl h⟩⟩
theorem p_go14 {a b c : Int32} (hx : a &&& 31 = 14) (h : p_two 61 199 [.ref 1, .int (b.toUInt32 % 65536).toInt32] [.ref 27, .int (b.toUInt32 % 65536).toInt32]) : p_one a b c := by
  obtain ⟨v, w1, rr1, w2, rr2, e1, s1, e2, s2, sm⟩ := h
  exact ⟨rr2, w2, s2, sm, lw_op14 gp_w0_sh 0 (p_hn a b c) hx ⟨rfl, rfl, v, w1, rr1, e1, s1, rfl, v, w2, rr2, e2, s2, fun _ => p_fin s2, fun h => absurd rfl h⟩⟩
theorem p_go16 {a b c : Int32} (hx : a &&& 31 = 16) (h : p_two 66 203 [.ref 1, .int (b.toUInt32 % 65536).toInt32] [.ref 27, .int (b.toUInt32 % 65536).toInt32]) : p_one a b c := by
  obtain ⟨v, w1, rr1, w2, rr2, e1, s1, e2, s2, sm⟩ := h
  exact ⟨rr2, w2, s2, sm, lw_op16 gp_w0_sh 0 (p_hn a b c) hx ⟨rfl, rfl, v, w1, rr1, e1, s1, rfl, v, w2, rr2, e2, s2, fun _ => p_fin s2, fun h => absurd rfl h⟩⟩
theorem p_go6 {a b c : Int32} (hx : a &&& 31 = 6) (h : p_two 22 158 [.ref 1, .int b, .int c] [.ref 27, .int b, .int c]) : p_one a b c := by
  obtain ⟨v, w1, rr1, w2, rr2, e1, s1, e2, s2, sm⟩ := h
  exact ⟨rr2, w2, s2, sm, lw_op6 gp_w0_sh 0 (p_hn a b c) hx ⟨rfl, rfl, rfl, v, w1, rr1, e1, s1, rfl, rfl, v, w2, rr2, e2, s2, fun _ => p_fin s2, fun h => absurd rfl h⟩⟩
theorem p_lt {x : Int32} (h : ¬ x < 0) (h' : x < 0) : False := h h'
theorem p_step (b : Int32) : p_two 80 215 [.ref 1, .int b] [.ref 27, .int b] := by
  have e : f_80 gp_w0 b = -1 := by
    unfold f_80
    split
    · rfl
    · rename_i h
      rw [if_neg (show ¬ b < f_81 gp_w0 from h)]
  refine ⟨-1, gp_w0, [], w_si gp_w0 26 0 0, [], ?_, gp_w0_sh, ?_, p_m0, gp_Sm_nil⟩
  · rw [← e]
    exact f_80_E gp_w0_sh b (fun h1 h2 => absurd h2 h1)
  · exact gk_E_i rfl rfl (sg_215_0 gp_w0_sh b ⟨fun _ => ⟨rfl, rfl⟩, fun h => ⟨fun h2 => absurd h2 h, fun _ => ⟨rfl, rfl⟩⟩⟩)
theorem p_drop (b : Int32) : p_two 12 154 [.ref 1, .int b] [.ref 27, .int b] := by
  refine ⟨0, gp_w0, [], w_si gp_w0 26 0 0, [], ?_, gp_w0_sh, ?_, p_m0, gp_Sm_nil⟩
  · exact gk_E_i rfl rfl (sg_12_0 (d := 6) gp_w0_sh b ⟨fun _ => ⟨rfl, rfl⟩, fun h => ⟨fun h2 => absurd h2 h, fun _ => ⟨rfl, rfl⟩⟩⟩)
  · exact gk_E_i rfl rfl (sg_154_0 (d := 6) gp_w0_sh b ⟨fun _ => ⟨rfl, rfl⟩, fun h => ⟨fun h2 => absurd h2 h, fun _ => ⟨rfl, rfl⟩⟩⟩)
theorem p_symbol (b c : Int32) : p_two 22 158 [.ref 1, .int b, .int c] [.ref 27, .int b, .int c] := by
  have e : f_22 gp_w0 b c = -1 := by
    unfold f_22
    split
    · rfl
    · rename_i h
      rw [if_neg (show ¬ b < f_13 gp_w0 3 from h)]
  refine ⟨-1, gp_w0, [], w_si gp_w0 26 0 0, [], ?_, gp_w0_sh, ?_, p_m0, gp_Sm_nil⟩
  · rw [← e]
    exact f_22_E gp_w0_sh b c (fun h1 h2 => absurd h2 h1)
  · exact gk_E_i rfl rfl (sg_158_0 (d := 6) gp_w0_sh b c ⟨fun _ => ⟨rfl, rfl⟩, fun h => ⟨fun h2 => absurd h2 h, fun _ => ⟨rfl, rfl⟩⟩⟩)
theorem p_lg0 : ck2 43 [.ref 1, .int 0] 192 [.ref 27, .int 0] = true := by decide +kernel
theorem p_lg1 : ck2 43 [.ref 1, .int 1] 192 [.ref 27, .int 1] = true := by decide +kernel
theorem p_lg2 : ck2 43 [.ref 1, .int 2] 192 [.ref 27, .int 2] = true := by decide +kernel
theorem p_language (b : Int32) : p_two 43 192 [.ref 1, .int b] [.ref 27, .int b] := by
  by_cases h0 : b = 0
  · subst h0; exact ck2_ok rfl rfl p_lg0
  by_cases h1 : b = 1
  · subst h1; exact ck2_ok rfl rfl p_lg1
  by_cases h2 : b = 2
  · subst h2; exact ck2_ok rfl rfl p_lg2
  have hz := gk_sw3 h0 h1 h2
  refine ⟨0, gp_w0, [], w_si gp_w0 26 0 0, [], ?_, gp_w0_sh, ?_, p_m0, gp_Sm_nil⟩
  · exact gk_E_i rfl rfl (sg_43_0 (d := 6) gp_w0_sh b ⟨fun h => absurd h h0, fun h => absurd h h1, fun h => absurd h h2, fun _ => ⟨rfl, rfl⟩⟩)
  · refine gk_E_i rfl rfl (sg_192_0 (d := 6) gp_w0_sh b ⟨fun _ => ⟨rfl, rfl⟩, fun h => ⟨fun h3 => ?_, fun _ => ⟨rfl, rfl⟩⟩⟩)
    exfalso
    have a1 : ¬ b.toInt < 0 := fun q => h (Int32.lt_iff_toInt_lt.mpr q)
    have a2 : b.toInt ≤ 2 := Int32.le_iff_toInt_le.mp h3
    omega
theorem p_var {c : Int32} (h1 : ¬ c < 65) (h2 : c ≤ 80) : c = 65 ∨ c = 66 ∨ c = 67 ∨ c = 68 ∨ c = 69 ∨ c = 70 ∨ c = 71 ∨ c = 72 ∨ c = 73 ∨ c = 74 ∨ c = 75 ∨ c = 76 ∨ c = 77 ∨ c = 78 ∨ c = 79 ∨ c = 80 := by
  have a1 : ¬ c.toInt < 65 := fun q => h1 (Int32.lt_iff_toInt_lt.mpr q)
  have a2 : c.toInt ≤ 80 := Int32.le_iff_toInt_le.mp h2
  have a3 : c.toInt = 65 ∨ c.toInt = 66 ∨ c.toInt = 67 ∨ c.toInt = 68 ∨ c.toInt = 69 ∨ c.toInt = 70 ∨ c.toInt = 71 ∨ c.toInt = 72 ∨ c.toInt = 73 ∨ c.toInt = 74 ∨ c.toInt = 75 ∨ c.toInt = 76 ∨ c.toInt = 77 ∨ c.toInt = 78 ∨ c.toInt = 79 ∨ c.toInt = 80 := by omega
  rcases a3 with h | h | h | h | h | h | h | h | h | h | h | h | h | h | h | h
  · exact Or.inl (Int32.toInt_inj.mp h)
  · exact Or.inr (Or.inl (Int32.toInt_inj.mp h))
  · exact Or.inr (Or.inr (Or.inl (Int32.toInt_inj.mp h)))
  · exact Or.inr (Or.inr (Or.inr (Or.inl (Int32.toInt_inj.mp h))))
  · exact Or.inr (Or.inr (Or.inr (Or.inr (Or.inl (Int32.toInt_inj.mp h)))))
  · exact Or.inr (Or.inr (Or.inr (Or.inr (Or.inr (Or.inl (Int32.toInt_inj.mp h))))))
  · exact Or.inr (Or.inr (Or.inr (Or.inr (Or.inr (Or.inr (Or.inl (Int32.toInt_inj.mp h)))))))
  · exact Or.inr (Or.inr (Or.inr (Or.inr (Or.inr (Or.inr (Or.inr (Or.inl (Int32.toInt_inj.mp h))))))))
  · exact Or.inr (Or.inr (Or.inr (Or.inr (Or.inr (Or.inr (Or.inr (Or.inr (Or.inl (Int32.toInt_inj.mp h)))))))))
  · exact Or.inr (Or.inr (Or.inr (Or.inr (Or.inr (Or.inr (Or.inr (Or.inr (Or.inr (Or.inl (Int32.toInt_inj.mp h))))))))))
  · exact Or.inr (Or.inr (Or.inr (Or.inr (Or.inr (Or.inr (Or.inr (Or.inr (Or.inr (Or.inr (Or.inl (Int32.toInt_inj.mp h)))))))))))
  · exact Or.inr (Or.inr (Or.inr (Or.inr (Or.inr (Or.inr (Or.inr (Or.inr (Or.inr (Or.inr (Or.inr (Or.inl (Int32.toInt_inj.mp h))))))))))))
  · exact Or.inr (Or.inr (Or.inr (Or.inr (Or.inr (Or.inr (Or.inr (Or.inr (Or.inr (Or.inr (Or.inr (Or.inr (Or.inl (Int32.toInt_inj.mp h)))))))))))))
  · exact Or.inr (Or.inr (Or.inr (Or.inr (Or.inr (Or.inr (Or.inr (Or.inr (Or.inr (Or.inr (Or.inr (Or.inr (Or.inr (Or.inl (Int32.toInt_inj.mp h))))))))))))))
  · exact Or.inr (Or.inr (Or.inr (Or.inr (Or.inr (Or.inr (Or.inr (Or.inr (Or.inr (Or.inr (Or.inr (Or.inr (Or.inr (Or.inr (Or.inl (Int32.toInt_inj.mp h)))))))))))))))
  · exact Or.inr (Or.inr (Or.inr (Or.inr (Or.inr (Or.inr (Or.inr (Or.inr (Or.inr (Or.inr (Or.inr (Or.inr (Or.inr (Or.inr (Or.inr (Int32.toInt_inj.mp h)))))))))))))))
theorem p_let {c : Int32} (h1 : ¬ c < 97) (h2 : ¬ 102 < c) : c = 97 ∨ c = 98 ∨ c = 99 ∨ c = 100 ∨ c = 101 ∨ c = 102 := by
  have a1 : ¬ c.toInt < 97 := fun q => h1 (Int32.lt_iff_toInt_lt.mpr q)
  have a2 : ¬ 102 < c.toInt := fun q => h2 (Int32.lt_iff_toInt_lt.mpr q)
  have a3 : c.toInt = 97 ∨ c.toInt = 98 ∨ c.toInt = 99 ∨ c.toInt = 100 ∨ c.toInt = 101 ∨ c.toInt = 102 := by omega
  rcases a3 with h | h | h | h | h | h
  · exact Or.inl (Int32.toInt_inj.mp h)
  · exact Or.inr (Or.inl (Int32.toInt_inj.mp h))
  · exact Or.inr (Or.inr (Or.inl (Int32.toInt_inj.mp h)))
  · exact Or.inr (Or.inr (Or.inr (Or.inl (Int32.toInt_inj.mp h))))
  · exact Or.inr (Or.inr (Or.inr (Or.inr (Or.inl (Int32.toInt_inj.mp h)))))
  · exact Or.inr (Or.inr (Or.inr (Or.inr (Or.inr (Int32.toInt_inj.mp h)))))
theorem p_f52a {c : Int32} (h : c < 65) : ¬ ¬ f_52 c = 0 := by unfold f_52; simp [h]
theorem p_first65 : ck2 51 [.ref 1, .int 65] 195 [.ref 27, .int 65] = true := by decide +kernel
theorem p_first66 : ck2 51 [.ref 1, .int 66] 195 [.ref 27, .int 66] = true := by decide +kernel
theorem p_first67 : ck2 51 [.ref 1, .int 67] 195 [.ref 27, .int 67] = true := by decide +kernel
theorem p_first68 : ck2 51 [.ref 1, .int 68] 195 [.ref 27, .int 68] = true := by decide +kernel
theorem p_first69 : ck2 51 [.ref 1, .int 69] 195 [.ref 27, .int 69] = true := by decide +kernel
theorem p_first70 : ck2 51 [.ref 1, .int 70] 195 [.ref 27, .int 70] = true := by decide +kernel
theorem p_first71 : ck2 51 [.ref 1, .int 71] 195 [.ref 27, .int 71] = true := by decide +kernel
theorem p_first72 : ck2 51 [.ref 1, .int 72] 195 [.ref 27, .int 72] = true := by decide +kernel
theorem p_first73 : ck2 51 [.ref 1, .int 73] 195 [.ref 27, .int 73] = true := by decide +kernel
theorem p_first74 : ck2 51 [.ref 1, .int 74] 195 [.ref 27, .int 74] = true := by decide +kernel
theorem p_first75 : ck2 51 [.ref 1, .int 75] 195 [.ref 27, .int 75] = true := by decide +kernel
theorem p_first76 : ck2 51 [.ref 1, .int 76] 195 [.ref 27, .int 76] = true := by decide +kernel
theorem p_first77 : ck2 51 [.ref 1, .int 77] 195 [.ref 27, .int 77] = true := by decide +kernel
theorem p_first78 : ck2 51 [.ref 1, .int 78] 195 [.ref 27, .int 78] = true := by decide +kernel
theorem p_first79 : ck2 51 [.ref 1, .int 79] 195 [.ref 27, .int 79] = true := by decide +kernel
theorem p_first80 : ck2 51 [.ref 1, .int 80] 195 [.ref 27, .int 80] = true := by decide +kernel
theorem p_first (c : Int32) : p_two 51 195 [.ref 1, .int c] [.ref 27, .int c] := by
  by_cases h : ¬ c < 65 ∧ c ≤ 80
  · rcases p_var h.1 h.2 with rfl | rfl | rfl | rfl | rfl | rfl | rfl | rfl | rfl | rfl | rfl | rfl | rfl | rfl | rfl | rfl
    · exact ck2_ok rfl rfl p_first65
    · exact ck2_ok rfl rfl p_first66
    · exact ck2_ok rfl rfl p_first67
    · exact ck2_ok rfl rfl p_first68
    · exact ck2_ok rfl rfl p_first69
    · exact ck2_ok rfl rfl p_first70
    · exact ck2_ok rfl rfl p_first71
    · exact ck2_ok rfl rfl p_first72
    · exact ck2_ok rfl rfl p_first73
    · exact ck2_ok rfl rfl p_first74
    · exact ck2_ok rfl rfl p_first75
    · exact ck2_ok rfl rfl p_first76
    · exact ck2_ok rfl rfl p_first77
    · exact ck2_ok rfl rfl p_first78
    · exact ck2_ok rfl rfl p_first79
    · exact ck2_ok rfl rfl p_first80
  · have hz : f_52 c = 0 := by
      unfold f_52
      by_cases h1 : c < 65
      · simp [h1]
      · have h2 : ¬ c ≤ 80 := fun q => h ⟨h1, q⟩
        have h3 : 81 ≤ c := Int32.le_iff_toInt_le.mpr (by
          have a2 : ¬ c.toInt ≤ 80 := fun q => h2 (Int32.le_iff_toInt_le.mpr q)
          show (81 : Int) ≤ c.toInt
          omega)
        simp [h1, h3]
    refine ⟨0, gp_w0, [], w_si gp_w0 26 0 0, [], ?_, gp_w0_sh, ?_, p_m0, gp_Sm_nil⟩
    · exact gk_E_i rfl rfl (sg_51_0 (d := 6) gp_w0_sh c ⟨fun q => absurd hz q, fun _ => ⟨rfl, rfl⟩⟩)
    · exact gk_E_i rfl rfl (sg_195_0 (d := 6) gp_w0_sh c ⟨fun _ => ⟨rfl, rfl⟩, fun h1 => ⟨fun h2 => absurd ⟨h1, h2⟩ h, fun _ => ⟨rfl, rfl⟩⟩⟩)
theorem p_follow65 : ck2 61 [.ref 1, .int 65] 199 [.ref 27, .int 65] = true := by decide +kernel
theorem p_follow66 : ck2 61 [.ref 1, .int 66] 199 [.ref 27, .int 66] = true := by decide +kernel
theorem p_follow67 : ck2 61 [.ref 1, .int 67] 199 [.ref 27, .int 67] = true := by decide +kernel
theorem p_follow68 : ck2 61 [.ref 1, .int 68] 199 [.ref 27, .int 68] = true := by decide +kernel
theorem p_follow69 : ck2 61 [.ref 1, .int 69] 199 [.ref 27, .int 69] = true := by decide +kernel
theorem p_follow70 : ck2 61 [.ref 1, .int 70] 199 [.ref 27, .int 70] = true := by decide +kernel
theorem p_follow71 : ck2 61 [.ref 1, .int 71] 199 [.ref 27, .int 71] = true := by decide +kernel
theorem p_follow72 : ck2 61 [.ref 1, .int 72] 199 [.ref 27, .int 72] = true := by decide +kernel
theorem p_follow73 : ck2 61 [.ref 1, .int 73] 199 [.ref 27, .int 73] = true := by decide +kernel
theorem p_follow74 : ck2 61 [.ref 1, .int 74] 199 [.ref 27, .int 74] = true := by decide +kernel
theorem p_follow75 : ck2 61 [.ref 1, .int 75] 199 [.ref 27, .int 75] = true := by decide +kernel
theorem p_follow76 : ck2 61 [.ref 1, .int 76] 199 [.ref 27, .int 76] = true := by decide +kernel
theorem p_follow77 : ck2 61 [.ref 1, .int 77] 199 [.ref 27, .int 77] = true := by decide +kernel
theorem p_follow78 : ck2 61 [.ref 1, .int 78] 199 [.ref 27, .int 78] = true := by decide +kernel
theorem p_follow79 : ck2 61 [.ref 1, .int 79] 199 [.ref 27, .int 79] = true := by decide +kernel
theorem p_follow80 : ck2 61 [.ref 1, .int 80] 199 [.ref 27, .int 80] = true := by decide +kernel
theorem p_follow (c : Int32) : p_two 61 199 [.ref 1, .int c] [.ref 27, .int c] := by
  by_cases h : ¬ c < 65 ∧ c ≤ 80
  · rcases p_var h.1 h.2 with rfl | rfl | rfl | rfl | rfl | rfl | rfl | rfl | rfl | rfl | rfl | rfl | rfl | rfl | rfl | rfl
    · exact ck2_ok rfl rfl p_follow65
    · exact ck2_ok rfl rfl p_follow66
    · exact ck2_ok rfl rfl p_follow67
    · exact ck2_ok rfl rfl p_follow68
    · exact ck2_ok rfl rfl p_follow69
    · exact ck2_ok rfl rfl p_follow70
    · exact ck2_ok rfl rfl p_follow71
    · exact ck2_ok rfl rfl p_follow72
    · exact ck2_ok rfl rfl p_follow73
    · exact ck2_ok rfl rfl p_follow74
    · exact ck2_ok rfl rfl p_follow75
    · exact ck2_ok rfl rfl p_follow76
    · exact ck2_ok rfl rfl p_follow77
    · exact ck2_ok rfl rfl p_follow78
    · exact ck2_ok rfl rfl p_follow79
    · exact ck2_ok rfl rfl p_follow80
  · have hz : f_52 c = 0 := by
      unfold f_52
      by_cases h1 : c < 65
      · simp [h1]
      · have h2 : ¬ c ≤ 80 := fun q => h ⟨h1, q⟩
        have h3 : 81 ≤ c := Int32.le_iff_toInt_le.mpr (by
          have a2 : ¬ c.toInt ≤ 80 := fun q => h2 (Int32.le_iff_toInt_le.mpr q)
          show (81 : Int) ≤ c.toInt
          omega)
        simp [h1, h3]
    refine ⟨0, gp_w0, [], w_si gp_w0 26 0 0, [], ?_, gp_w0_sh, ?_, p_m0, gp_Sm_nil⟩
    · exact gk_E_i rfl rfl (sg_61_0 (d := 6) gp_w0_sh c ⟨fun q => absurd hz q, fun _ => ⟨rfl, rfl⟩⟩)
    · exact gk_E_i rfl rfl (sg_199_0 (d := 6) gp_w0_sh c ⟨fun _ => ⟨rfl, rfl⟩, fun h1 => ⟨fun h2 => absurd ⟨h1, h2⟩ h, fun _ => ⟨rfl, rfl⟩⟩⟩)
theorem p_feed97 : ck2 66 [.ref 1, .int 97] 203 [.ref 27, .int 97] = true := by decide +kernel
theorem p_feed98 : ck2 66 [.ref 1, .int 98] 203 [.ref 27, .int 98] = true := by decide +kernel
theorem p_feed99 : ck2 66 [.ref 1, .int 99] 203 [.ref 27, .int 99] = true := by decide +kernel
theorem p_feed100 : ck2 66 [.ref 1, .int 100] 203 [.ref 27, .int 100] = true := by decide +kernel
theorem p_feed101 : ck2 66 [.ref 1, .int 101] 203 [.ref 27, .int 101] = true := by decide +kernel
theorem p_feed102 : ck2 66 [.ref 1, .int 102] 203 [.ref 27, .int 102] = true := by decide +kernel
theorem p_feed (c : Int32) : p_two 66 203 [.ref 1, .int c] [.ref 27, .int c] := by
  by_cases h : ¬ c < 97 ∧ ¬ 102 < c
  · rcases p_let h.1 h.2 with rfl | rfl | rfl | rfl | rfl | rfl
    · exact ck2_ok rfl rfl p_feed97
    · exact ck2_ok rfl rfl p_feed98
    · exact ck2_ok rfl rfl p_feed99
    · exact ck2_ok rfl rfl p_feed100
    · exact ck2_ok rfl rfl p_feed101
    · exact ck2_ok rfl rfl p_feed102
  · have hz : f_67 c = 0 := by
      unfold f_67
      by_cases h1 : c < 97
      · simp [h1]
      · have h3 : 103 ≤ c := Int32.le_iff_toInt_le.mpr (by
          have a2 : ¬ ¬ 102 < c.toInt := fun q => h ⟨h1, fun q2 => q (Int32.lt_iff_toInt_lt.mp q2)⟩
          show (103 : Int) ≤ c.toInt
          omega)
        simp [h1, h3]
    refine ⟨0, gp_w0, [], w_si gp_w0 26 0 0, [], ?_, gp_w0_sh, ?_, p_m0, gp_Sm_nil⟩
    · exact gk_E_i rfl rfl (sg_66_0 (d := 6) gp_w0_sh c ⟨fun _ => ⟨rfl, rfl⟩, fun q => absurd hz q⟩)
    · exact gk_E_i rfl rfl (sg_203_0 gp_w0_sh c ⟨fun _ => ⟨rfl, rfl⟩, fun h1 => ⟨fun _ => ⟨rfl, rfl⟩, fun h2 => absurd ⟨h1, h2⟩ h⟩⟩)
theorem p_type (c : Int32) (hc : fits .char (.int c) = true) : p_two 9 142 [.ref 1, .int c] [.ref 27, .int c] := by
  by_cases h : ¬ c < 32 ∧ ¬ 126 < c
  · have e : gk_E 6 10 [.ref 2, .int c] gp_w0 (.inl (some (.int 1))) _ := gk_E_i rfl rfl (sg_10_0 gp_w0_sh c ⟨fun q => absurd q h.1, fun _ => ⟨fun q => absurd q h.2, fun _ => ⟨fun _ => ⟨rfl, hc, rfl, rfl⟩, fun q => absurd (by decide) q⟩⟩⟩)
    have s1 : gk_Sh [] (w_si (w_sa gp_w0 2 ((w_a gp_w0 2).set (w_i gp_w0 1 1).toNatClampNeg c)) 1 1 ((w_i (w_sa gp_w0 2 ((w_a gp_w0 2).set (w_i gp_w0 1 1).toNatClampNeg c)) 1 1) + 1)) := sh_si (sh_as gp_w0_sh ly_2 _ _) ly_1 (k := 1) rfl _
    have s2 : gk_Sh [] (w_si _ 26 0 0) := sh_si s1 ly_26 (k := 0) rfl 0
    refine ⟨1, _, [], _, [], gk_E_i rfl rfl (sg_9_0 (d := 6) gp_w0_sh c ⟨1, _, e, s1, rfl, rfl, rfl⟩), s1, gk_E_i rfl rfl (sg_142_0 s1 c ⟨fun q => absurd q h.1, fun _ => ⟨fun q => absurd q h.2, fun _ => ⟨fun _ => ⟨rfl, hc, rfl, rfl⟩, fun q => absurd (show ¬ (0 : Int32) = 9 by decide) q⟩⟩⟩), ?_, gp_Sm_nil⟩
    exact sh_si (sh_as s2 ly_27 _ _) ly_26 (k := 1) rfl _
  · have e : gk_E 6 10 [.ref 2, .int c] gp_w0 (.inl (some (.int 0))) gp_w0 := gk_E_i rfl rfl (sg_10_0 gp_w0_sh c ⟨fun _ => ⟨rfl, rfl⟩, fun h1 => ⟨fun _ => ⟨rfl, rfl⟩, fun h2 => absurd ⟨h1, h2⟩ h⟩⟩)
    exact ⟨0, gp_w0, [], w_si gp_w0 26 0 0, [], gk_E_i rfl rfl (sg_9_0 (d := 6) gp_w0_sh c ⟨0, _, e, gp_w0_sh, rfl, rfl, rfl⟩), gp_w0_sh, gk_E_i rfl rfl (sg_142_0 gp_w0_sh c ⟨fun _ => ⟨rfl, rfl⟩, fun h1 => ⟨fun _ => ⟨rfl, rfl⟩, fun h2 => absurd ⟨h1, h2⟩ h⟩⟩), p_m0, gp_Sm_nil⟩
theorem p_and (a : Int32) : a &&& 31 = 0 ∨ a &&& 31 = 1 ∨ a &&& 31 = 2 ∨ a &&& 31 = 3 ∨ a &&& 31 = 4 ∨ a &&& 31 = 5 ∨ a &&& 31 = 6 ∨ a &&& 31 = 7 ∨ a &&& 31 = 8 ∨ a &&& 31 = 9 ∨ a &&& 31 = 10 ∨ a &&& 31 = 11 ∨ a &&& 31 = 12 ∨ a &&& 31 = 13 ∨ a &&& 31 = 14 ∨ a &&& 31 = 15 ∨ a &&& 31 = 16 ∨ a &&& 31 = 17 ∨ a &&& 31 = 18 ∨ a &&& 31 = 19 ∨ a &&& 31 = 20 ∨ a &&& 31 = 21 ∨ a &&& 31 = 22 ∨ a &&& 31 = 23 ∨ a &&& 31 = 24 ∨ a &&& 31 = 25 ∨ a &&& 31 = 26 ∨ a &&& 31 = 27 ∨ a &&& 31 = 28 ∨ a &&& 31 = 29 ∨ a &&& 31 = 30 ∨ a &&& 31 = 31 := by
  have hn : (a &&& 31).toInt = ((a &&& 31).toBitVec.toNat : Int) := by
    show BitVec.toInt _ = _
    rw [BitVec.toInt_eq_toNat_of_lt]
    show 2 * (a.toBitVec &&& (31 : Int32).toBitVec).toNat < 2 ^ 32
    rw [BitVec.toNat_and]
    have := Nat.and_le_right (n := a.toBitVec.toNat) (m := (31 : Int32).toBitVec.toNat)
    have h31 : (31 : Int32).toBitVec.toNat = 31 := rfl
    omega
  have hb : (a &&& 31).toBitVec.toNat ≤ 31 := by
    show (a.toBitVec &&& (31 : Int32).toBitVec).toNat ≤ 31
    rw [BitVec.toNat_and]
    exact Nat.and_le_right
  have a3 : (a &&& 31).toInt = 0 ∨ (a &&& 31).toInt = 1 ∨ (a &&& 31).toInt = 2 ∨ (a &&& 31).toInt = 3 ∨ (a &&& 31).toInt = 4 ∨ (a &&& 31).toInt = 5 ∨ (a &&& 31).toInt = 6 ∨ (a &&& 31).toInt = 7 ∨ (a &&& 31).toInt = 8 ∨ (a &&& 31).toInt = 9 ∨ (a &&& 31).toInt = 10 ∨ (a &&& 31).toInt = 11 ∨ (a &&& 31).toInt = 12 ∨ (a &&& 31).toInt = 13 ∨ (a &&& 31).toInt = 14 ∨ (a &&& 31).toInt = 15 ∨ (a &&& 31).toInt = 16 ∨ (a &&& 31).toInt = 17 ∨ (a &&& 31).toInt = 18 ∨ (a &&& 31).toInt = 19 ∨ (a &&& 31).toInt = 20 ∨ (a &&& 31).toInt = 21 ∨ (a &&& 31).toInt = 22 ∨ (a &&& 31).toInt = 23 ∨ (a &&& 31).toInt = 24 ∨ (a &&& 31).toInt = 25 ∨ (a &&& 31).toInt = 26 ∨ (a &&& 31).toInt = 27 ∨ (a &&& 31).toInt = 28 ∨ (a &&& 31).toInt = 29 ∨ (a &&& 31).toInt = 30 ∨ (a &&& 31).toInt = 31 := by omega
  rcases a3 with h | h | h | h | h | h | h | h | h | h | h | h | h | h | h | h | h | h | h | h | h | h | h | h | h | h | h | h | h | h | h | h
  · exact Or.inl (Int32.toInt_inj.mp h)
  · exact Or.inr (Or.inl (Int32.toInt_inj.mp h))
  · exact Or.inr (Or.inr (Or.inl (Int32.toInt_inj.mp h)))
  · exact Or.inr (Or.inr (Or.inr (Or.inl (Int32.toInt_inj.mp h))))
  · exact Or.inr (Or.inr (Or.inr (Or.inr (Or.inl (Int32.toInt_inj.mp h)))))
  · exact Or.inr (Or.inr (Or.inr (Or.inr (Or.inr (Or.inl (Int32.toInt_inj.mp h))))))
  · exact Or.inr (Or.inr (Or.inr (Or.inr (Or.inr (Or.inr (Or.inl (Int32.toInt_inj.mp h)))))))
  · exact Or.inr (Or.inr (Or.inr (Or.inr (Or.inr (Or.inr (Or.inr (Or.inl (Int32.toInt_inj.mp h))))))))
  · exact Or.inr (Or.inr (Or.inr (Or.inr (Or.inr (Or.inr (Or.inr (Or.inr (Or.inl (Int32.toInt_inj.mp h)))))))))
  · exact Or.inr (Or.inr (Or.inr (Or.inr (Or.inr (Or.inr (Or.inr (Or.inr (Or.inr (Or.inl (Int32.toInt_inj.mp h))))))))))
  · exact Or.inr (Or.inr (Or.inr (Or.inr (Or.inr (Or.inr (Or.inr (Or.inr (Or.inr (Or.inr (Or.inl (Int32.toInt_inj.mp h)))))))))))
  · exact Or.inr (Or.inr (Or.inr (Or.inr (Or.inr (Or.inr (Or.inr (Or.inr (Or.inr (Or.inr (Or.inr (Or.inl (Int32.toInt_inj.mp h))))))))))))
  · exact Or.inr (Or.inr (Or.inr (Or.inr (Or.inr (Or.inr (Or.inr (Or.inr (Or.inr (Or.inr (Or.inr (Or.inr (Or.inl (Int32.toInt_inj.mp h)))))))))))))
  · exact Or.inr (Or.inr (Or.inr (Or.inr (Or.inr (Or.inr (Or.inr (Or.inr (Or.inr (Or.inr (Or.inr (Or.inr (Or.inr (Or.inl (Int32.toInt_inj.mp h))))))))))))))
  · exact Or.inr (Or.inr (Or.inr (Or.inr (Or.inr (Or.inr (Or.inr (Or.inr (Or.inr (Or.inr (Or.inr (Or.inr (Or.inr (Or.inr (Or.inl (Int32.toInt_inj.mp h)))))))))))))))
  · exact Or.inr (Or.inr (Or.inr (Or.inr (Or.inr (Or.inr (Or.inr (Or.inr (Or.inr (Or.inr (Or.inr (Or.inr (Or.inr (Or.inr (Or.inr (Or.inl (Int32.toInt_inj.mp h))))))))))))))))
  · exact Or.inr (Or.inr (Or.inr (Or.inr (Or.inr (Or.inr (Or.inr (Or.inr (Or.inr (Or.inr (Or.inr (Or.inr (Or.inr (Or.inr (Or.inr (Or.inr (Or.inl (Int32.toInt_inj.mp h)))))))))))))))))
  · exact Or.inr (Or.inr (Or.inr (Or.inr (Or.inr (Or.inr (Or.inr (Or.inr (Or.inr (Or.inr (Or.inr (Or.inr (Or.inr (Or.inr (Or.inr (Or.inr (Or.inr (Or.inl (Int32.toInt_inj.mp h))))))))))))))))))
  · exact Or.inr (Or.inr (Or.inr (Or.inr (Or.inr (Or.inr (Or.inr (Or.inr (Or.inr (Or.inr (Or.inr (Or.inr (Or.inr (Or.inr (Or.inr (Or.inr (Or.inr (Or.inr (Or.inl (Int32.toInt_inj.mp h)))))))))))))))))))
  · exact Or.inr (Or.inr (Or.inr (Or.inr (Or.inr (Or.inr (Or.inr (Or.inr (Or.inr (Or.inr (Or.inr (Or.inr (Or.inr (Or.inr (Or.inr (Or.inr (Or.inr (Or.inr (Or.inr (Or.inl (Int32.toInt_inj.mp h))))))))))))))))))))
  · exact Or.inr (Or.inr (Or.inr (Or.inr (Or.inr (Or.inr (Or.inr (Or.inr (Or.inr (Or.inr (Or.inr (Or.inr (Or.inr (Or.inr (Or.inr (Or.inr (Or.inr (Or.inr (Or.inr (Or.inr (Or.inl (Int32.toInt_inj.mp h)))))))))))))))))))))
  · exact Or.inr (Or.inr (Or.inr (Or.inr (Or.inr (Or.inr (Or.inr (Or.inr (Or.inr (Or.inr (Or.inr (Or.inr (Or.inr (Or.inr (Or.inr (Or.inr (Or.inr (Or.inr (Or.inr (Or.inr (Or.inr (Or.inl (Int32.toInt_inj.mp h))))))))))))))))))))))
  · exact Or.inr (Or.inr (Or.inr (Or.inr (Or.inr (Or.inr (Or.inr (Or.inr (Or.inr (Or.inr (Or.inr (Or.inr (Or.inr (Or.inr (Or.inr (Or.inr (Or.inr (Or.inr (Or.inr (Or.inr (Or.inr (Or.inr (Or.inl (Int32.toInt_inj.mp h)))))))))))))))))))))))
  · exact Or.inr (Or.inr (Or.inr (Or.inr (Or.inr (Or.inr (Or.inr (Or.inr (Or.inr (Or.inr (Or.inr (Or.inr (Or.inr (Or.inr (Or.inr (Or.inr (Or.inr (Or.inr (Or.inr (Or.inr (Or.inr (Or.inr (Or.inr (Or.inl (Int32.toInt_inj.mp h))))))))))))))))))))))))
  · exact Or.inr (Or.inr (Or.inr (Or.inr (Or.inr (Or.inr (Or.inr (Or.inr (Or.inr (Or.inr (Or.inr (Or.inr (Or.inr (Or.inr (Or.inr (Or.inr (Or.inr (Or.inr (Or.inr (Or.inr (Or.inr (Or.inr (Or.inr (Or.inr (Or.inl (Int32.toInt_inj.mp h)))))))))))))))))))))))))
  · exact Or.inr (Or.inr (Or.inr (Or.inr (Or.inr (Or.inr (Or.inr (Or.inr (Or.inr (Or.inr (Or.inr (Or.inr (Or.inr (Or.inr (Or.inr (Or.inr (Or.inr (Or.inr (Or.inr (Or.inr (Or.inr (Or.inr (Or.inr (Or.inr (Or.inr (Or.inl (Int32.toInt_inj.mp h))))))))))))))))))))))))))
  · exact Or.inr (Or.inr (Or.inr (Or.inr (Or.inr (Or.inr (Or.inr (Or.inr (Or.inr (Or.inr (Or.inr (Or.inr (Or.inr (Or.inr (Or.inr (Or.inr (Or.inr (Or.inr (Or.inr (Or.inr (Or.inr (Or.inr (Or.inr (Or.inr (Or.inr (Or.inr (Or.inl (Int32.toInt_inj.mp h)))))))))))))))))))))))))))
  · exact Or.inr (Or.inr (Or.inr (Or.inr (Or.inr (Or.inr (Or.inr (Or.inr (Or.inr (Or.inr (Or.inr (Or.inr (Or.inr (Or.inr (Or.inr (Or.inr (Or.inr (Or.inr (Or.inr (Or.inr (Or.inr (Or.inr (Or.inr (Or.inr (Or.inr (Or.inr (Or.inr (Or.inl (Int32.toInt_inj.mp h))))))))))))))))))))))))))))
  · exact Or.inr (Or.inr (Or.inr (Or.inr (Or.inr (Or.inr (Or.inr (Or.inr (Or.inr (Or.inr (Or.inr (Or.inr (Or.inr (Or.inr (Or.inr (Or.inr (Or.inr (Or.inr (Or.inr (Or.inr (Or.inr (Or.inr (Or.inr (Or.inr (Or.inr (Or.inr (Or.inr (Or.inr (Or.inl (Int32.toInt_inj.mp h)))))))))))))))))))))))))))))
  · exact Or.inr (Or.inr (Or.inr (Or.inr (Or.inr (Or.inr (Or.inr (Or.inr (Or.inr (Or.inr (Or.inr (Or.inr (Or.inr (Or.inr (Or.inr (Or.inr (Or.inr (Or.inr (Or.inr (Or.inr (Or.inr (Or.inr (Or.inr (Or.inr (Or.inr (Or.inr (Or.inr (Or.inr (Or.inr (Or.inl (Int32.toInt_inj.mp h))))))))))))))))))))))))))))))
  · exact Or.inr (Or.inr (Or.inr (Or.inr (Or.inr (Or.inr (Or.inr (Or.inr (Or.inr (Or.inr (Or.inr (Or.inr (Or.inr (Or.inr (Or.inr (Or.inr (Or.inr (Or.inr (Or.inr (Or.inr (Or.inr (Or.inr (Or.inr (Or.inr (Or.inr (Or.inr (Or.inr (Or.inr (Or.inr (Or.inr (Or.inl (Int32.toInt_inj.mp h)))))))))))))))))))))))))))))))
  · exact Or.inr (Or.inr (Or.inr (Or.inr (Or.inr (Or.inr (Or.inr (Or.inr (Or.inr (Or.inr (Or.inr (Or.inr (Or.inr (Or.inr (Or.inr (Or.inr (Or.inr (Or.inr (Or.inr (Or.inr (Or.inr (Or.inr (Or.inr (Or.inr (Or.inr (Or.inr (Or.inr (Or.inr (Or.inr (Or.inr (Or.inr (Int32.toInt_inj.mp h)))))))))))))))))))))))))))))))
theorem p_three (a b c : Int32) : p_one a b c := by
  rcases p_and a with h | h | h | h | h | h | h | h | h | h | h | h | h | h | h | h | h | h | h | h | h | h | h | h | h | h | h | h | h | h | h | h
  · exact p_go0 h (p_type _ (gk_fit_c _))
  · exact p_op1 h
  · exact p_op2 h
  · exact p_go3 h (p_drop b)
  · exact p_op4 h
  · exact p_op5 h
  · exact p_go6 h (p_symbol b c)
  · exact p_op7 h
  · exact p_op8 h
  · exact p_op9 h
  · exact p_op10 h
  · exact p_op11 h
  · exact p_go12 h (p_language b)
  · exact p_go13 h (p_first _)
  · exact p_go14 h (p_follow _)
  · exact p_op15 h
  · exact p_go16 h (p_feed _)
  · exact p_op17 h
  · exact p_op18 h
  · exact p_op19 h
  · exact p_op20 h
  · exact p_go21 h (p_step b)
  · exact p_op22 h
  · exact p_op23 h
  · exact p_op24 h
  · exact p_op25 h
  · exact p_op26 h
  · exact p_op27 h
  · exact p_op28 h
  · exact p_op29 h
  · exact p_op30 h
  · exact p_op31 h
theorem p_short {xs : List Int32} (hl : xs.length ≤ 2) : gk_W (some xs) 8 0 23 (p_l 0) [] gp_w0 (.inl (some (.int 1))) gp_w0 := by
  refine lw_end gp_w0_sh 0 ?_ ⟨rfl, rfl⟩
  rcases (show xs.length = 0 ∨ xs.length = 1 ∨ xs.length = 2 by omega) with h | h | h <;> (rw [h]; decide)
theorem p_all {xs : List Int32} (hl : xs.length ≤ 3) : ∃ (rr : List gk_S) (w : gk_Wd), gk_Sh rr w ∧ gp_Sm rr ∧ gk_W (some xs) 8 0 23 (p_l 0) [] gp_w0 (.inl (some (.int 1))) w := by
  by_cases h : xs.length ≤ 2
  · exact ⟨[], gp_w0, gp_w0_sh, gp_Sm_nil, p_short h⟩
  · match xs, hl, h with
    | [a, b, c], _, _ => exact p_three a b c
    | [], _, h => exact absurd (by simp) h
    | [_], _, h => exact absurd (by simp) h
    | [_, _], _, h => exact absurd (by simp) h
    | _ :: _ :: _ :: _ :: _, hl, _ => simp at hl
theorem gp_law3 : gp_Law 3 := by
  intro xs hl
  obtain ⟨rr, w, hS, hm, hW⟩ := p_all hl
  obtain ⟨n, hn⟩ := gp_pre hW
  obtain ⟨h1, h2⟩ := gk_Sh_room hS
  have h3 := gp_lay_sum
  have h4 := hm.1
  have h5 := hm.2
  exact ⟨n, w, hn, by omega, by omega⟩
