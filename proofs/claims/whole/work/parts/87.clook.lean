/-! part 61: first and follow: the class -/
section CK
variable {d : Nat} {rr : List gk_S} {w : gk_Wd} {G : List Rl} {N : Nat → Bool} {F W : Nat → Int32}
/-- the class's set of variables that may be empty -/
def NB (w : gk_Wd) (N : Nat → Bool) : Prop := ∀ v, v < 16 → bt (w_i w 14 2) v = N v
theorem f_56_F (hF : TB w 15 F) {s : Nat} (hs : s < 22) : f_56 w (Int32.ofNat s) = lo F s := by
  unfold f_56 lo
  by_cases h : s < 16
  · rw [if_neg (by rw [f_28_0 (by omega)]; omega), if_pos h, TB_at hF rfl h]
  · rw [if_pos (by rw [f_28_0 (by omega)]; omega), if_neg h]
theorem f_57_N (hN : NB w N) {s : Nat} (hs : s < 22) : f_57 w (Int32.ofNat s) = 0 ↔ ¬ (s < 16 ∧ N s = true) := by
  unfold f_57
  by_cases h : s < 16
  · rw [if_neg (by rw [f_28_0 (by omega)]; omega), f_36_eq _ (by omega), hN s h]
    cases N s with
    | true => simp [h]
    | false => simp
  · rw [if_pos (by rw [f_28_0 (by omega)]; omega)]
    exact ⟨fun _ q => h q.1, fun _ => rfl⟩
/-- lettersAhead -/
theorem E55_l (hS : gk_Sh rr w) (hN : NB w N) (hF : TB w 15 F) {r : Rl} (hr : okR r) : ∀ (m k : Nat) (x : Int32), k + m = r.2.length → gk_W none (d + 2) 55 5 [some (.ref 15), some (.long (pk r)), none, some (.int x), some (.int (Int32.ofNat (k + 1))), none] [] w (.inl (some (.int (x ||| la N F (r.2.drop k))))) w
  | 0, k, x, hk => by
    have h10 := hr.2.1
    have e : x ||| la N F (r.2.drop k) = x := by
      rw [List.drop_eq_nil_of_le (by omega)]
      refine bt_ext fun c _ => ?_
      rw [bt_or]; simp [la, bt_zero]
    rw [e]
    exact sg_55_5 (d := d) hS _ _ _ ⟨fun _ => ⟨rfl, rfl⟩, fun q => absurd (len_t hr (by omega) (by omega)) q⟩
  | m + 1, k, x, hk => by
    have h10 := hr.2.1
    have hkl : k < r.2.length := by omega
    have hs := hr.2.2 _ (List.getElem_mem hkl)
    have e26 := f_26_pk hr hkl
    have e56 : f_56 w (f_26 (pk r) (Int32.ofNat (k + 1))) = lo F r.2[k] := by rw [e26]; exact f_56_F hF hs
    have ed : la N F (r.2.drop k) = lo F r.2[k] ||| (if r.2[k] < 16 ∧ N r.2[k] = true then la N F (r.2.drop (k + 1)) else 0) := by
      rw [List.drop_eq_getElem_cons hkl]; rfl
    rw [ed]
    refine sg_55_5 (d := d) hS _ _ _ ⟨fun q => absurd q (len_f hr (by omega)), fun _ => ⟨fun q => ?_, fun q => ?_, fun q => ⟨?_, rfl⟩⟩⟩
    · rw [e26, f_28_0 (by omega)] at q
      rw [e26]; exact o16 (by omega)
    · rw [e26, f_57_N hN hs] at q
      rw [if_pos (Classical.not_not.mp q), e56, i_s]
      have ih := E55_l hS hN hF hr m (k + 1) (x ||| lo F r.2[k]) (by omega)
      have e : x ||| (lo F r.2[k] ||| la N F (r.2.drop (k + 1))) = x ||| lo F r.2[k] ||| la N F (r.2.drop (k + 1)) := by
        refine bt_ext fun c _ => ?_
        rw [bt_or, bt_or, bt_or, bt_or, Bool.or_assoc]
      rw [e]; exact ih
    · rw [e26, f_57_N hN hs] at q
      rw [if_neg q, e56]
      have e : lo F r.2[k] ||| 0 = lo F r.2[k] := by
        refine bt_ext fun c _ => ?_
        rw [bt_or, bt_zero, Bool.or_false]
      rw [e]
theorem E55 (hS : gk_Sh rr w) (hN : NB w N) (hF : TB w 15 F) {r : Rl} (hr : okR r) : gk_E (d + 2) 55 [.ref 15, .long (pk r)] w (.inl (some (.int (la N F r.2)))) w := by
  have := E55_l (d := d) hS hN hF hr r.2.length 0 0 (by omega)
  have e : (0 : Int32) ||| la N F (r.2.drop 0) = la N F r.2 := by
    refine bt_ext fun c _ => ?_
    rw [bt_or, bt_zero, Bool.false_or]; rfl
  rw [e] at this
  exact gk_E_i rfl rfl (sg_55_0 (d := d) hS _ this)
theorem bI_or0 (b : Bool) : bI b ||| 0 = bI b := by cases b <;> decide
theorem bI_or1 (b : Bool) : bI b ||| 1 = bI true := by cases b <;> decide
theorem bI_or (a b : Bool) : bI a ||| bI b = bI (a || b) := by cases a <;> cases b <;> decide
/-- growFirsts -/
theorem E54 (hS : gk_Sh rr w) (hR : RS w 3 G) (hN : NB w N) (hF : TB w 15 F) : ∃ (g : Bool) (w' : gk_Wd), gk_E (d + 3) 54 [.ref 15, .ref 4] w (.inl (some (.int (bI g)))) w' ∧ gk_Sh rr w' ∧ Fr [15] [] w w' ∧ TB w' 15 (R1 N G F) ∧ (g = false → R1 N G F = F) := by
  have h60 := RS_60 hR
  obtain ⟨g, w1, ⟨s1, f1, h1, e1⟩, g1⟩ := up_loop (α := Bool) (d := d + 3) (mi := 54) (pc := 4) G.length (fun k g => [some (.ref 15), some (.ref (3 + 1)), some (.int (bI g)), some (.int (Int32.ofNat k)), none, none])
    (fun k g w1 => gk_Sh rr w1 ∧ Fr [15] [] w w1 ∧ TB w1 15 ((G.take k).foldl (fS N) F) ∧ (g = false → (G.take k).foldl (fS N) F = F))
    (fun k g w1 hk hI => by
      obtain ⟨s1, f1, h1, e1⟩ := hI
      have R1' : RS w1 3 G := RS_Fr hR f1 (by decide) (by simp)
      have N1 : NB w1 N := fun v hv => by rw [Fr_i f1 (by simp)]; exact hN v hv
      have ef := RS_f23 R1' hk
      have hok := RS_ok R1' hk
      have h16 := hok.1
      have hle : ¬ f_13 w1 3 ≤ Int32.ofNat k := fun q => absurd ((RS_le R1' (by omega)).mp q) (by omega)
      have el : f_25 (f_23 w1 3 (Int32.ofNat k)) = Int32.ofNat G[k].1 := by rw [ef, f_25_pk hok]
      have ol : gk_out (f_25 (f_23 w1 3 (Int32.ofNat k))) 16 = false := by rw [el]; exact o16 h16
      generalize hF1 : (G.take k).foldl (fS N) F = F1 at h1 e1
      have et : (G.take (k + 1)).foldl (fS N) F = fS N F1 G[k] := by
        rw [List.take_succ_eq_append_getElem hk, List.foldl_append, hF1]; rfl
      have eF : (w_a w1 15).getD (f_25 (f_23 w1 3 (Int32.ofNat k))).toNatClampNeg 0 = F1 G[k].1 := TB_at h1 el h16
      have e55 := E55 (d := d) s1 N1 h1 hok
      have T2 := TB_set s1 ly_15 h1 h16 (F1 G[k].1 ||| la N F1 G[k].2)
      have s2 := sh_as s1 ly_15 G[k].1 (F1 G[k].1 ||| la N F1 G[k].2)
      by_cases hc : F1 G[k].1 ||| la N F1 G[k].2 = F1 G[k].1
      · refine ⟨g, _, ⟨s2, Fr_trans f1 (Fr_sa (by simp) _), by rw [et]; exact T2, fun q => ?_⟩, fun r w' h => sg_54_4 (d := d + 2) s1 rs_3 _ _ ⟨fun q => absurd q hle, fun _ => ⟨RS_out R1' hk, ol, RS_out R1' hk, _, by rw [ef]; exact e55, ol, fun _ => ⟨ol, ?_⟩, fun q => ?_⟩⟩⟩
        · rw [et, ← e1 q]; exact tU_id hc
        · rw [eF, el, i_nat (by omega), bI_or0, i_s]; exact h
        · rw [eF] at q; exact absurd hc q
      · refine ⟨true, _, ⟨s2, Fr_trans f1 (Fr_sa (by simp) _), by rw [et]; exact T2, fun q => by cases q⟩, fun r w' h => sg_54_4 (d := d + 2) s1 rs_3 _ _ ⟨fun q => absurd q hle, fun _ => ⟨RS_out R1' hk, ol, RS_out R1' hk, _, by rw [ef]; exact e55, ol, fun q => ?_, fun _ => ⟨ol, ?_⟩⟩⟩⟩
        · rw [eF] at q; exact absurd q hc
        · rw [eF, el, i_nat (by omega), bI_or1, i_s]; exact h) G.length 0 false w (by omega) ⟨hS, Fr_refl, hF, fun _ => rfl⟩
  rw [List.take_of_length_le (Nat.le_refl _)] at h1 e1
  have R1' : RS w1 3 G := RS_Fr hR f1 (by decide) (by simp)
  exact ⟨g, w1, gk_E_i rfl rfl (sg_54_0 (d := d + 2) hS rs_3 (g1 _ _ (sg_54_4 (d := d + 2) s1 rs_3 _ _ ⟨fun _ => ⟨bI_b _, rfl, rfl⟩, fun q => absurd ((RS_le R1' (by omega)).mpr (Nat.le_refl _)) q⟩))), s1, f1, h1, e1⟩
theorem or_sub {a b : Int32} : (a &&& (b ^^^ (-1))) = 0 ↔ b ||| a = b := by
  constructor
  · intro h
    refine bt_ext fun c hc => ?_
    have := bt_eq0.mp h c hc
    rw [bt_and, bt_not b hc] at this
    rw [bt_or]
    cases ha : bt a c with
    | false => simp
    | true =>
      rw [ha] at this
      have : bt b c = true := by simpa using this
      rw [this]; rfl
  · intro h
    refine bt_eq0.mpr fun c hc => ?_
    rw [bt_and, bt_not b hc]
    cases hb : bt b c with
    | true => simp
    | false =>
      have : bt (b ||| a) c = bt b c := by rw [h]
      rw [bt_or, hb] at this
      have : bt a c = false := by simpa using this
      rw [this]; rfl
/-- growFollowsBy -/
theorem E59 (hS : gk_Sh rr w) (hN : NB w N) (hF : TB w 15 F) (hW : TB w 16 W) {r : Rl} (hr : okR r) : ∃ (g : Bool) (w' : gk_Wd), gk_E (d + 2) 59 [.ref 15, .long (pk r)] w (.inl (some (.int (bI g)))) w' ∧ gk_Sh rr w' ∧ Fr [16] [] w w' ∧ TB w' 16 (cW N F W r) ∧ (g = false → cW N F W r = W) := by
  have h10 := hr.2.1
  have hl16 := hr.1
  obtain ⟨g, w1, ⟨hk1, s1, f1, h1, e1⟩, g1⟩ := dn_loop (α := Bool) (d := d + 2) (mi := 59) (pc := 19) (fun k g => [some (.ref 15), some (.long (pk r)), none, some (.int (bI g)), some (.int (bk N F (r.2.drop k) (W, W r.1)).2), some (.int (Int32.ofNat k)), none])
    (fun k g w1 => k ≤ r.2.length ∧ gk_Sh rr w1 ∧ Fr [16] [] w w1 ∧ TB w1 16 (bk N F (r.2.drop k) (W, W r.1)).1 ∧ (g = false → (bk N F (r.2.drop k) (W, W r.1)).1 = W))
    (fun k g w1 hI => by
      obtain ⟨hk, s1, f1, h1, e1⟩ := hI
      have hkl : k < r.2.length := by omega
      have hs := hr.2.2 _ (List.getElem_mem hkl)
      have e26 := f_26_pk hr hkl
      have N1 : NB w1 N := fun v hv => by rw [Fr_i f1 (by simp)]; exact hN v hv
      have F1 : TB w1 15 F := TB_congr hF (Fr_a f1 (by decide))
      have n1 : ¬ Int32.ofNat (k + 1) < 1 := fun q => absurd ((i_lt (b := 1) (by omega) (by omega)).mp q) (by omega)
      have ed : r.2.drop k = r.2[k] :: r.2.drop (k + 1) := List.drop_eq_getElem_cons hkl
      generalize hp : bk N F (r.2.drop (k + 1)) (W, W r.1) = p at h1 e1
      have eb : bk N F (r.2.drop k) (W, W r.1) = (if r.2[k] < 16 then tU p.1 r.2[k] (p.1 r.2[k] ||| p.2) else p.1, if r.2[k] < 16 ∧ N r.2[k] = true then p.2 ||| lo F r.2[k] else lo F r.2[k]) := by
        rw [ed]; simp only [bk]; rw [hp]
      by_cases h16 : r.2[k] < 16
      · rw [if_pos h16] at eb
        have e28 : ¬ f_28 (f_26 (pk r) (Int32.ofNat (k + 1))) = 0 := by rw [e26, f_28_0 (by omega)]; omega
        have o1 : gk_out (f_26 (pk r) (Int32.ofNat (k + 1))) 16 = false := by rw [e26]; exact o16 h16
        have eW : (w_a w1 16).getD (f_26 (pk r) (Int32.ofNat (k + 1))).toNatClampNeg 0 = p.1 r.2[k] := TB_at h1 e26 h16
        have s2 := sh_as s1 ly_16 r.2[k] (p.1 r.2[k] ||| p.2)
        have T2 := TB_set s1 ly_16 h1 h16 (p.1 r.2[k] ||| p.2)
        have f2 : Fr [16] [] w1 (w_sa w1 16 ((w_a w1 16).set r.2[k] (p.1 r.2[k] ||| p.2))) := Fr_sa (by simp) _
        have ew : w_sa w1 16 ((w_a w1 16).set (f_26 (pk r) (Int32.ofNat (k + 1))).toNatClampNeg (((w_a w1 16).getD (f_26 (pk r) (Int32.ofNat (k + 1))).toNatClampNeg 0) ||| p.2)) = w_sa w1 16 ((w_a w1 16).set r.2[k] (p.1 r.2[k] ||| p.2)) := by
          rw [eW, e26, i_nat (by omega)]
        generalize hw2 : w_sa w1 16 ((w_a w1 16).set r.2[k] (p.1 r.2[k] ||| p.2)) = w2 at s2 T2 f2 ew
        have F2 : TB w2 15 F := TB_congr F1 (Fr_a f2 (by decide))
        have N2 : NB w2 N := fun v hv => by rw [Fr_i f2 (by simp)]; exact N1 v hv
        have e57 := f_57_N N2 hs
        have e56 := f_56_F F2 hs
        have hcont : ∀ (g2 : Bool) (x : gk_Res) (w' : gk_Wd), gk_W none (d + 2) 59 19 [some (.ref 15), some (.long (pk r)), none, some (.int (bI g2)), some (.int (bk N F (r.2.drop k) (W, W r.1)).2), some (.int (Int32.ofNat k)), none] [] w2 x w' → (f_57 w2 (f_26 (pk r) (Int32.ofNat (k + 1))) = 0 → (¬ f_28 (f_26 (pk r) (Int32.ofNat (k + 1))) = 0 → gk_out (f_26 (pk r) (Int32.ofNat (k + 1))) 16 = false) ∧ gk_W none (d + 2) 59 19 [some (.ref 15), some (.long (pk r)), none, some (.int (bI g2)), some (.int (f_56 w2 (f_26 (pk r) (Int32.ofNat (k + 1))))), some (.int (Int32.ofNat (k + 1) + (-1))), none] [] w2 x w') ∧ (¬ f_57 w2 (f_26 (pk r) (Int32.ofNat (k + 1))) = 0 → (¬ f_28 (f_26 (pk r) (Int32.ofNat (k + 1))) = 0 → gk_out (f_26 (pk r) (Int32.ofNat (k + 1))) 16 = false) ∧ gk_W none (d + 2) 59 19 [some (.ref 15), some (.long (pk r)), none, some (.int (bI g2)), some (.int (p.2 ||| f_56 w2 (f_26 (pk r) (Int32.ofNat (k + 1))))), some (.int (Int32.ofNat (k + 1) + (-1))), none] [] w2 x w') := fun g2 x w' h => by
          rw [eb] at h
          refine ⟨fun q => ⟨fun _ => o1, ?_⟩, fun q => ⟨fun _ => o1, ?_⟩⟩
          · rw [e26, e57] at q
            simp only [if_neg q] at h
            rw [e26, e56, i_m1, i_down]; exact h
          · rw [e26, e57] at q
            simp only [if_pos (Classical.not_not.mp q)] at h
            rw [e26, e56, i_m1, i_down]; exact h
        by_cases hc : p.1 r.2[k] ||| p.2 = p.1 r.2[k]
        · refine ⟨g, w2, ⟨by omega, s2, Fr_trans f1 f2, by rw [eb]; exact T2, fun q => ?_⟩, fun x w' h => sg_59_19 (d := d) s1 _ _ _ _ ⟨fun q => absurd q n1, fun _ => ⟨fun q => absurd q e28, fun _ => ⟨o1, fun _ => ⟨o1, o1, ?_⟩, fun q => ?_⟩⟩⟩⟩
          · rw [eb, ← e1 q]; exact tU_id hc
          · rw [ew, bI_or0]; exact hcont g x w' h
          · rw [eW, or_sub] at q; exact absurd hc q
        · refine ⟨true, w2, ⟨by omega, s2, Fr_trans f1 f2, by rw [eb]; exact T2, fun q => by cases q⟩, fun x w' h => sg_59_19 (d := d) s1 _ _ _ _ ⟨fun q => absurd q n1, fun _ => ⟨fun q => absurd q e28, fun _ => ⟨o1, fun q => ?_, fun _ => ⟨o1, o1, ?_⟩⟩⟩⟩⟩
          · rw [eW, or_sub] at q; exact absurd q hc
          · rw [ew, bI_or1]; exact hcont true x w' h
      · rw [if_neg h16, if_neg (fun q => h16 q.1)] at eb
        have e28 : f_28 (f_26 (pk r) (Int32.ofNat (k + 1))) = 0 := by rw [e26, f_28_0 (by omega)]; omega
        have y57 : f_57 w1 (f_26 (pk r) (Int32.ofNat (k + 1))) = 0 := by rw [e26, f_57_N N1 hs]; exact fun q => h16 q.1
        refine ⟨g, w1, ⟨by omega, s1, f1, by rw [eb]; exact h1, fun q => by rw [eb]; exact e1 q⟩, fun x w' h => sg_59_19 (d := d) s1 _ _ _ _ ⟨fun q => absurd q n1, fun _ => ⟨fun _ => ⟨fun _ => ⟨fun q => absurd e28 q, ?_⟩, fun q => absurd y57 q⟩, fun q => absurd e28 q⟩⟩⟩
        rw [eb] at h
        rw [e26, f_56_F F1 hs, i_m1, i_down]; exact h) r.2.length false w ⟨Nat.le_refl _, hS, Fr_refl, by rw [List.drop_eq_nil_of_le (Nat.le_refl _)]; exact hW, fun _ => by rw [List.drop_eq_nil_of_le (Nat.le_refl _)]; rfl⟩
  rw [List.drop_eq_nil_of_le (Nat.le_refl _)] at g1
  refine ⟨g, w1, gk_E_i rfl rfl (sg_59_0 (d := d) hS _ ⟨by rw [f_25_pk hr]; exact o16 hl16, ?_⟩), s1, f1, h1, e1⟩
  rw [TB_at hW (f_25_pk hr) hl16, f_24_pk hr]
  exact g1 _ _ (sg_59_19 (d := d) s1 _ _ _ _ ⟨fun _ => ⟨bI_b _, rfl, rfl⟩, fun q => absurd (by decide) q⟩)
/-- growFollows -/
theorem E58 (hS : gk_Sh rr w) (hR : RS w 3 G) (hN : NB w N) (hF : TB w 15 F) (hW : TB w 16 W) : ∃ (g : Bool) (w' : gk_Wd), gk_E (d + 3) 58 [.ref 15, .ref 4] w (.inl (some (.int (bI g)))) w' ∧ gk_Sh rr w' ∧ Fr [16] [] w w' ∧ TB w' 16 (R2 N F G W) ∧ (g = false → R2 N F G W = W) := by
  have h60 := RS_60 hR
  obtain ⟨g, w1, ⟨s1, f1, h1, e1⟩, g1⟩ := up_loop (α := Bool) (d := d + 3) (mi := 58) (pc := 4) G.length (fun k g => [some (.ref 15), some (.ref (3 + 1)), some (.int (bI g)), some (.int (Int32.ofNat k))])
    (fun k g w1 => gk_Sh rr w1 ∧ Fr [16] [] w w1 ∧ TB w1 16 ((G.take k).foldl (cW N F) W) ∧ (g = false → (G.take k).foldl (cW N F) W = W))
    (fun k g w1 hk hI => by
      obtain ⟨s1, f1, h1, e1⟩ := hI
      have R1' : RS w1 3 G := RS_Fr hR f1 (by decide) (by simp)
      have N1 : NB w1 N := fun v hv => by rw [Fr_i f1 (by simp)]; exact hN v hv
      have ef := RS_f23 R1' hk
      have hok := RS_ok R1' hk
      have hle : ¬ f_13 w1 3 ≤ Int32.ofNat k := fun q => absurd ((RS_le R1' (by omega)).mp q) (by omega)
      obtain ⟨g2, w2, e2, s2, f2, T2, k2⟩ := E59 (d := d) s1 N1 (TB_congr hF (Fr_a f1 (by decide))) h1 hok
      have et : (G.take (k + 1)).foldl (cW N F) W = cW N F ((G.take k).foldl (cW N F) W) G[k] := by
        rw [List.take_succ_eq_append_getElem hk, List.foldl_append]; rfl
      refine ⟨g || g2, w2, ⟨s2, Fr_trans f1 f2, by rw [et]; exact T2, fun q => ?_⟩, fun r w' h => sg_58_4 (d := d + 2) s1 rs_3 _ _ ⟨fun q => absurd q hle, fun _ => ⟨RS_out R1' hk, _, w2, by rw [ef]; exact e2, s2, by rw [bI_or, i_s]; exact h⟩⟩⟩
      rw [Bool.or_eq_false_iff] at q
      rw [et, k2 q.2, e1 q.1]) G.length 0 false w (by omega) ⟨hS, Fr_refl, hW, fun _ => rfl⟩
  rw [List.take_of_length_le (Nat.le_refl _)] at h1 e1
  have R1' : RS w1 3 G := RS_Fr hR f1 (by decide) (by simp)
  exact ⟨g, w1, gk_E_i rfl rfl (sg_58_0 (d := d + 2) hS rs_3 (g1 _ _ (sg_58_4 (d := d + 2) s1 rs_3 _ _ ⟨fun _ => ⟨bI_b _, rfl, rfl⟩, fun q => absurd ((RS_le R1' (by omega)).mpr (Nat.le_refl _)) q⟩))), s1, f1, h1, e1⟩
theorem E53_a (hR0 : RS w 3 G) (hN0 : NB w N) {w0 : gk_Wd} (hw0 : Fr [15] [] w w0) : ∀ (m k : Nat) (g : Bool) (w1 : gk_Wd), gk_Sh rr w1 → Fr [15] [] w w1 → TB w1 15 (rnd (R1 N G) k (fF0 N)) → k + m = 113 → (g = false → R1 N G (rnd (R1 N G) k (fF0 N)) = rnd (R1 N G) k (fF0 N)) →
    ∃ w2, gk_Sh rr w2 ∧ Fr [15] [] w w2 ∧ TB w2 15 (Fst N G) ∧ Go (d + 4) 53 64 [some (.ref 15), some (.ref 4), some (.int (bI g)), some (.int (Int32.ofNat k))] w1 90 [some (.ref 15), some (.ref 4), some (.int 1), some (.int (Int32.ofNat 0))] w2
  | 0, k, g, w1, s1, f1, h1, hk, hg => by
    obtain rfl : k = 113 := by omega
    refine ⟨w1, s1, f1, ?_, fun r w' h => sg_53_64 (d := d + 3) s1 rs_3 _ _ ⟨fun _ => h, fun _ => ⟨fun _ => h, fun q => absurd (by decide) q⟩⟩⟩
    have := rnd_end (f := R1 N G) (x := fF0 N) (k := 113) (n := 17) (Fst_fix hR0.2.2.1) (Or.inr (by omega))
    rw [this] at h1; exact h1
  | m + 1, k, false, w1, s1, f1, h1, hk, hg => by
    refine ⟨w1, s1, f1, ?_, fun r w' h => sg_53_64 (d := d + 3) s1 rs_3 _ _ ⟨fun _ => h, fun q => absurd rfl q⟩⟩
    have := rnd_end (f := R1 N G) (x := fF0 N) (k := k) (n := 17) (Fst_fix hR0.2.2.1) (Or.inl (hg rfl))
    rw [this] at h1; exact h1
  | m + 1, k, true, w1, s1, f1, h1, hk, hg => by
    have n113 : ¬ (113 : Int32) ≤ Int32.ofNat k := fun q => absurd ((i_le (a := 113) (by omega) (by omega)).mp q) (by omega)
    obtain ⟨g2, w2, e2, s2, f2, h2, k2⟩ := E54 (d := d) (N := N) s1 (RS_Fr hR0 f1 (by decide) (by simp)) (fun v hv => by rw [Fr_i f1 (by simp)]; exact hN0 v hv) h1
    obtain ⟨w3, s3, f3, h3, g3⟩ := E53_a hR0 hN0 hw0 m (k + 1) g2 w2 s2 (Fr_trans f1 f2) h2 (by omega) (fun q => by
      have := k2 q
      show R1 N G (R1 N G (rnd (R1 N G) k (fF0 N))) = R1 N G (rnd (R1 N G) k (fF0 N))
      rw [this, this])
    refine ⟨w3, s3, f3, h3, fun r w' h => sg_53_64 (d := d + 3) s1 rs_3 _ _ ⟨fun q => absurd q (by decide), fun _ => ⟨fun q => absurd q n113, fun _ => ⟨_, w2, e2, s2, ?_⟩⟩⟩⟩
    rw [i_s]; exact g3 r w' h
theorem E53_b (hR0 : RS w 3 G) (hN0 : NB w N) (hF0 : TB w 15 F) : ∀ (m k : Nat) (g : Bool) (w1 : gk_Wd), gk_Sh rr w1 → Fr [16] [] w w1 → TB w1 16 (rnd (R2 N F G) k W0) → k + m = 113 → (g = false → R2 N F G (rnd (R2 N F G) k W0) = rnd (R2 N F G) k W0) →
    ∃ (W : Nat → Int32) (w2 : gk_Wd), isFo N F G W ∧ gk_Sh rr w2 ∧ Fr [16] [] w w2 ∧ TB w2 16 W ∧ gk_W none (d + 4) 53 90 [some (.ref 15), some (.ref 4), some (.int (bI g)), some (.int (Int32.ofNat k))] [] w1 (.inl none) w2
  | 0, k, g, w1, s1, f1, h1, hk, hg => by
    obtain rfl : k = 113 := by omega
    exact ⟨_, w1, fun c => cQ (n := 113) (Or.inr (by omega)) c, s1, f1, h1, sg_53_90 (d := d + 3) s1 rs_3 _ _ ⟨fun _ => ⟨rfl, rfl⟩, fun _ => ⟨fun _ => ⟨rfl, rfl⟩, fun q => absurd (by decide) q⟩⟩⟩
  | m + 1, k, false, w1, s1, f1, h1, hk, hg => ⟨_, w1, fun c => cQ (Or.inl (hg rfl)) c, s1, f1, h1, sg_53_90 (d := d + 3) s1 rs_3 _ _ ⟨fun _ => ⟨rfl, rfl⟩, fun q => absurd rfl q⟩⟩
  | m + 1, k, true, w1, s1, f1, h1, hk, hg => by
    have n113 : ¬ (113 : Int32) ≤ Int32.ofNat k := fun q => absurd ((i_le (a := 113) (by omega) (by omega)).mp q) (by omega)
    obtain ⟨g2, w2, e2, s2, f2, h2, k2⟩ := E58 (d := d) (N := N) s1 (RS_Fr hR0 f1 (by decide) (by simp)) (fun v hv => by rw [Fr_i f1 (by simp)]; exact hN0 v hv) (TB_congr hF0 (Fr_a f1 (by decide))) h1
    obtain ⟨W, w3, q3, s3, f3, h3, g3⟩ := E53_b hR0 hN0 hF0 m (k + 1) g2 w2 s2 (Fr_trans f1 f2) h2 (by omega) (fun q => by
      have := k2 q
      show R2 N F G (R2 N F G (rnd (R2 N F G) k W0)) = R2 N F G (rnd (R2 N F G) k W0)
      rw [this, this])
    refine ⟨W, w3, q3, s3, f3, h3, sg_53_90 (d := d + 3) s1 rs_3 _ _ ⟨fun q => absurd q (by decide), fun _ => ⟨fun q => absurd q n113, fun _ => ⟨_, w2, e2, s2, ?_⟩⟩⟩⟩
    rw [i_s]; exact g3
/-- study -/
theorem E53 (hS : gk_Sh rr w) (hR : RS w 3 G) : ∃ (N : Nat → Bool) (W : Nat → Int32) (w' : gk_Wd), isP false G N ∧ isFo N (Fst N G) G W ∧ gk_E (d + 4) 53 [.ref 15, .ref 4] w (.inl none) w' ∧ gk_Sh rr w' ∧ Fr [15, 16] [(14, 2)] w w' ∧ NB w' N ∧ TB w' 15 (Fst N G) ∧ TB w' 16 W := by
  obtain ⟨X, hX, eX⟩ := E50 (d := d) hS rs_3 hR
  have s0 := sh_si hS ly_14 (k := 2) rfl X
  have f0 : Fr [15, 16] [(14, 2)] w (w_si w 14 2 X) := Fr_si (by decide) _
  have N0 : NB (w_si w 14 2 X) (bt X) := fun v hv => by rw [w_i_same hS ly_14 rfl]
  generalize hw0 : w_si w 14 2 X = w0 at s0 f0 N0
  obtain ⟨-, w1, ⟨s1, f1, h15, h16⟩, g1⟩ := up_loop (α := Unit) (d := d + 4) (mi := 53) (pc := 10) 16 (fun k _ => [some (.ref 15), some (.ref (3 + 1)), some (.int (Int32.ofNat k)), none])
    (fun k _ w1 => gk_Sh rr w1 ∧ Fr [15, 16] [] w0 w1 ∧ (∀ v, v < k → (w_a w1 15).getD v 0 = fF0 (bt X) v) ∧ ∀ v, v < k → (w_a w1 16).getD v 0 = 0)
    (fun k _ w1 hk hI => by
      obtain ⟨s1, f1, h15, h16⟩ := hI
      have l15 := (w_int s1 ly_15).2
      have N1 : bt (w_i w1 14 2) k = bt X k := by rw [Fr_i f1 (by simp)]; exact N0 k hk
      have ex : f_36 (w_i w1 14 2) (Int32.ofNat k) = 0 ↔ bt X k = false := by rw [f_36_0 _ (by omega), N1]
      have s2 := fun x => sh_as s1 ly_15 k x
      have l16 := fun x => (w_int (s2 x) ly_16).2
      have key : ∀ x : Int32, x = fF0 (bt X) k → gk_Sh rr (w_sa (w_sa w1 15 ((w_a w1 15).set k x)) 16 ((w_a (w_sa w1 15 ((w_a w1 15).set k x)) 16).set k 0)) ∧ Fr [15, 16] [] w0 (w_sa (w_sa w1 15 ((w_a w1 15).set k x)) 16 ((w_a (w_sa w1 15 ((w_a w1 15).set k x)) 16).set k 0)) ∧ (∀ v, v < k + 1 → (w_a (w_sa (w_sa w1 15 ((w_a w1 15).set k x)) 16 ((w_a (w_sa w1 15 ((w_a w1 15).set k x)) 16).set k 0)) 15).getD v 0 = fF0 (bt X) v) ∧ ∀ v, v < k + 1 → (w_a (w_sa (w_sa w1 15 ((w_a w1 15).set k x)) 16 ((w_a (w_sa w1 15 ((w_a w1 15).set k x)) 16).set k 0)) 16).getD v 0 = 0 := fun x hx => by
        refine ⟨sh_as (s2 x) ly_16 k 0, Fr_trans f1 (Fr_trans (Fr_sa (by simp) _) (Fr_sa (by simp) _)), fun v hv => ?_, fun v hv => ?_⟩
        · rw [w_a_ne (by decide), w_a_same s1 ly_15, getD_set32 _ (by omega)]
          by_cases e : v = k
          · rw [if_pos e, hx, e]
          · rw [if_neg e]; exact h15 v (by omega)
        · have := l16 x
          rw [w_a_same (s2 x) ly_16, getD_set32 _ (by omega)]
          by_cases e : v = k
          · rw [if_pos e]
          · rw [if_neg e, w_a_ne (by decide)]; exact h16 v (by omega)
      cases hb : bt X k with
      | false =>
        refine ⟨(), _, key 0 (by unfold fF0; rw [if_neg (by rw [hb]; simp)]), fun r w' h => sg_53_10 (d := d + 3) s1 rs_3 _ ⟨fun q => absurd q (n16 hk), fun _ => ⟨fun _ => ⟨o16 hk, o16 hk, by rw [i_nat (by omega), i_s]; exact h⟩, fun q => absurd (ex.mpr hb) q⟩⟩⟩
      | true =>
        refine ⟨(), _, key 64 (by unfold fF0; rw [if_pos ⟨hk, hb⟩]), fun r w' h => sg_53_10 (d := d + 3) s1 rs_3 _ ⟨fun q => absurd q (n16 hk), fun _ => ⟨fun q => ?_, fun _ => ⟨o16 hk, o16 hk, by rw [i_nat (by omega), i_s]; exact h⟩⟩⟩⟩
        rw [ex, hb] at q; cases q) 16 0 () w0 (by omega) ⟨s0, Fr_refl, fun v hv => by omega, fun v hv => by omega⟩
  have s2 := sh_as s1 ly_16 0 64
  have l16 := (w_int s1 ly_16).2
  have f2 : Fr [15, 16] [] w1 (w_sa w1 16 ((w_a w1 16).set 0 64)) := Fr_sa (by simp) _
  have T15 : TB (w_sa w1 16 ((w_a w1 16).set 0 64)) 15 (fF0 (bt X)) := fun v hv => by rw [w_a_ne (by decide)]; exact h15 v hv
  have T16 : TB (w_sa w1 16 ((w_a w1 16).set 0 64)) 16 W0 := fun v hv => by
    rw [w_a_same s1 ly_16, getD_set32 _ (by omega)]
    unfold W0
    by_cases e : v = 0
    · rw [if_pos e, if_pos e]
    · rw [if_neg e, if_neg e]; exact h16 v hv
  generalize hw2 : w_sa w1 16 ((w_a w1 16).set 0 64) = w2 at s2 f2 T15 T16
  have f02 : Fr [15, 16] [(14, 2)] w w2 := Fr_trans f0 (Fr_trans (Fr_mono f1 (by simp) (by simp)) (Fr_mono f2 (by simp) (by simp)))
  have R2' : RS w2 3 G := RS_Fr hR f02 (by decide) (by decide)
  have N2 : NB w2 (bt X) := fun v hv => by rw [Fr_i f2 (by simp), Fr_i f1 (by simp)]; exact N0 v hv
  obtain ⟨w3, s3, f3, T3, g3⟩ := E53_a (d := d) (N := bt X) (w0 := w2) R2' N2 Fr_refl 113 0 true w2 s2 Fr_refl T15 (by omega) (fun q => by cases q)
  obtain ⟨W, w4, q4, s4, f4, T4, g4⟩ := E53_b (d := d) (N := bt X) (F := Fst (bt X) G) (RS_Fr R2' f3 (by decide) (by simp)) (fun v hv => by rw [Fr_i f3 (by simp)]; exact N2 v hv) T3 113 0 true w3 s3 Fr_refl (TB_congr T16 (Fr_a f3 (by decide))) (by omega) (fun q => by cases q)
  refine ⟨bt X, W, w4, hX, q4, gk_E_i rfl rfl (sg_53_0 (d := d + 3) hS rs_3 ⟨X, eX, ?_⟩), s4, Fr_trans f02 (Fr_trans (Fr_mono f3 (by simp) (by simp)) (Fr_mono f4 (by simp) (by simp))), fun v hv => ?_, TB_congr T3 (Fr_a f4 (by decide)), T4⟩
  · rw [hw0]
    refine g1 _ _ (sg_53_10 (d := d + 3) s1 rs_3 _ ⟨fun _ => ?_, fun q => absurd y16 q⟩)
    rw [hw2]
    exact g3 _ _ g4
  · rw [Fr_i f4 (by simp), Fr_i f3 (by simp)]; exact N2 v hv
end CK
