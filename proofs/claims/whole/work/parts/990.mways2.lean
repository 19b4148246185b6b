/-! part 74: ways of the reference, as a whole -/
def wkB (r : Rl) : Bool := neB r && !unB r
theorem wkB_ok {r : Rl} (h : wkB r = true) : wOk r := by
  unfold wkB at h
  rw [Bool.and_eq_true] at h
  exact ⟨h.1, by simpa using h.2⟩
theorem idx3 {v a b v' a' b' : Nat} (ha : a ≤ 10) (hb : b ≤ 10) (ha' : a' ≤ 10) (hb' : b' ≤ 10) (h : 121 * v + 11 * a + b = 121 * v' + 11 * a' + b') : a = a' ∧ b = b' := by
  have h1 : (121 * v + 11 * a + b) % 11 = b := by omega
  have h2 : (121 * v' + 11 * a' + b') % 11 = b' := by omega
  have h3 : b = b' := by rw [← h1, ← h2, h]
  have h4 : (11 * v + a) % 11 = a := by omega
  have h5 : (11 * v' + a') % 11 = a' := by omega
  have h6 : 11 * v + a = 11 * v' + a' := by omega
  exact ⟨by rw [← h4, ← h5, h6], h3⟩
section MWZ
variable {d : Nat} {rr : List gk_S} {w : gk_Wd} {wd : List Nat} {G : List Rl}
theorem E208_c (hS : gk_Sh rr w) (hR : RM w 4 28 G) (h0 : w_i w 26 0 = 0) : ∃ w1, gk_Sh rr w1 ∧ Fr [] [(26, 0)] w w1 ∧ w_i w1 26 0 = bI (!G.all wkB) ∧ Go (d + 2) 208 7 [some (.ref 27), some (.int (Int32.ofNat 0)), none, none, none] w 7 [some (.ref 27), some (.int (Int32.ofNat G.length)), none, none, none] w1 := by
  have h60 := RM_60 hR
  obtain ⟨-, w1, ⟨s1, f1, h1⟩, g1⟩ := up_loop (α := Unit) (d := d + 2) (mi := 208) (pc := 7) G.length (fun k _ => [some (.ref 27), some (.int (Int32.ofNat k)), none, none, none])
    (fun k _ w1 => gk_Sh rr w1 ∧ Fr [] [(26, 0)] w w1 ∧ w_i w1 26 0 = bI (!(G.take k).all wkB))
    (fun k _ w1 hk hI => by
      obtain ⟨s1, f1, h1⟩ := hI
      have R1 : RM w1 4 28 G := RM_Fr hR f1 (by simp) (by decide)
      have h10 := (RM_ok R1 hk).2.1
      have hle : ¬ w_i w1 26 4 ≤ Int32.ofNat k := fun p => absurd ((RM_le R1 (by omega)).mp p) (by omega)
      have e0 : (w_a w1 29).getD (Int32.ofNat k).toNatClampNeg 0 = 0 ↔ G[k].2.length = 0 := by
        have es : (w_a w1 29).getD (Int32.ofNat k).toNatClampNeg 0 = Int32.ofNat G[k].2.length := RM_size R1 hk
        rw [es]; exact i_eq (b := 0) (by omega) (by omega)
      have hu := f_179_M R1 hk
      have et : (G.take (k + 1)).all wkB = ((G.take k).all wkB && wkB G[k]) := by
        rw [List.take_succ_eq_append_getElem hk, List.all_append]; simp
      have s2 := sh_si s1 ly_26 (k := 0) rfl 1
      have f2 : Fr [] [(26, 0)] w (w_si w1 26 0 1) := Fr_trans f1 (Fr_si (by decide) _)
      cases hb : wkB G[k] with
      | true =>
        have hw := wkB_ok hb
        have hne : ¬ G[k].2.length = 0 := by
          have := hw.1
          unfold neB at this
          simpa using this
        refine ⟨(), w1, ⟨s1, f1, by rw [et, hb, Bool.and_true]; exact h1⟩, fun r w' h => sg_208_7 (d := d) s1 _ ⟨fun p => absurd p hle, fun _ => ⟨RM_out R1 hk, fun p => absurd (e0.mp p) hne, fun _ => ⟨RM_out R1 hk, f_179_o R1 hk, fun _ => by rw [i_s]; exact h, fun p => absurd (hu.mpr hw.2) p⟩⟩⟩⟩
      | false =>
        refine ⟨(), w_si w1 26 0 1, ⟨s2, f2, by rw [et, hb, Bool.and_false, w_i_same s1 ly_26 rfl]; rfl⟩, fun r w' h => sg_208_7 (d := d) s1 _ ⟨fun p => absurd p hle, fun _ => ⟨RM_out R1 hk, fun _ => by rw [i_s]; exact h, fun p => ⟨RM_out R1 hk, f_179_o R1 hk, fun p2 => ?_, fun _ => by rw [i_s]; exact h⟩⟩⟩⟩
        rw [e0] at p
        rw [hu] at p2
        have : wkB G[k] = true := by
          unfold wkB neB
          rw [decide_eq_false p, p2]; rfl
        rw [hb] at this; cases this) G.length 0 () w (by omega) ⟨hS, Fr_refl, by rw [h0]; rfl⟩
  rw [List.take_of_length_le (Nat.le_refl _)] at h1
  exact ⟨w1, s1, f1, h1, g1⟩
theorem E208_n (hS : gk_Sh rr w) (hR : RM w 4 28 G) (hG : G.all wkB = false) : ∃ w', gk_E (d + 2) 208 [.ref 27] w (.inl (some (.int 0))) w' ∧ gk_Sh rr w' ∧ Fr [] [(26, 0)] w w' ∧ w_i w' 26 0 = 1 := by
  have h60 := RM_60 hR
  have s0 := sh_si hS ly_26 (k := 0) rfl 0
  have f0 : Fr [] [(26, 0)] w (w_si w 26 0 0) := Fr_si (by decide) _
  obtain ⟨w1, s1, f1, h1, g1⟩ := E208_c (d := d) s0 (RM_Fr hR f0 (by simp) (by decide)) (w_i_same hS ly_26 rfl)
  rw [hG] at h1
  have R1 : RM w1 4 28 G := RM_Fr (RM_Fr hR f0 (by simp) (by decide)) f1 (by simp) (by decide)
  have n0 : ¬ w_i w1 26 0 = 0 := by rw [h1]; decide
  exact ⟨w1, gk_E_i rfl rfl (sg_208_0 (d := d) hS (g1 _ _ (sg_208_7 (d := d) s1 _ ⟨fun _ => ⟨fun p => absurd p n0, fun _ => ⟨rfl, rfl⟩⟩, fun p => absurd ((RM_le R1 (by omega)).mpr (Nat.le_refl _)) p⟩))), s1, Fr_trans f0 f1, h1⟩
/-- one span -/
theorem E208_p (hS : gk_Sh rr w) (hR : RM w 4 28 G) (hW : WM w wd) (hG : ∀ r ∈ G, wOk r) {n p : Nat} (hn : 1 ≤ n) (hp : p + n ≤ wd.length) {D : Nat → Nat → Prop} (hT : TC w 45 (Cs wd G) D) (hZ : ∀ v a b, v < 16 → a < b → b ≤ 10 → ¬ D a b → (w_a w 45).getD (121 * v + 11 * a + b) 0 = 0) (hD : ∀ a b, b - a < n → a < b → b ≤ wd.length → D a b) (hDn : ¬ D p (p + n)) : ∃ w1, gk_Sh rr w1 ∧ Fr [45, 52, 53] [] w w1 ∧ TC w1 45 (Cs wd G) (fun a b => D a b ∨ (a = p ∧ b = p + n)) ∧ (∀ v a b, v < 16 → a < b → b ≤ 10 → ¬ (D a b ∨ (a = p ∧ b = p + n)) → (w_a w1 45).getD (121 * v + 11 * a + b) 0 = 0) ∧ Go (d + 3) 208 98 [some (.ref 27), some (.int (Int32.ofNat n)), some (.int (Int32.ofNat p)), some (.int (Int32.ofNat 0)), none] w 86 [some (.ref 27), some (.int (Int32.ofNat n)), some (.int (Int32.ofNat (p + 1))), none, none] w1 := by
  have hL := hW.2.1
  have h60 := RM_60 hR
  obtain ⟨-, w1, ⟨s1, f1, c1, t1, z1⟩, g1⟩ := up_loop (α := Unit) (d := d + 3) (mi := 208) (pc := 98) G.length (fun k _ => [some (.ref 27), some (.int (Int32.ofNat n)), some (.int (Int32.ofNat p)), some (.int (Int32.ofNat k)), none])
    (fun k _ w1 => gk_Sh rr w1 ∧ Fr [45, 52, 53] [] w w1 ∧ (∀ v, v < 16 → (w_a w1 45).getD (121 * v + 11 * p + (p + n)) 0 = Int32.ofNat ((G.take k).foldl (wf wd (Cs wd G) v p (p + n)) 0)) ∧ TC w1 45 (Cs wd G) D ∧ ∀ v a b, v < 16 → a < b → b ≤ 10 → ¬ (D a b ∨ (a = p ∧ b = p + n)) → (w_a w1 45).getD (121 * v + 11 * a + b) 0 = 0)
    (fun k _ w1 hk hI => by
      obtain ⟨s1, f1, c1, t1, z1⟩ := hI
      have R1 : RM w1 4 28 G := RM_Fr hR f1 (by decide) (by simp)
      have W1 := WM_Fr hW f1 (by decide) (by simp)
      have hok := RM_ok R1 hk
      have h16 := hok.1
      have el := RM_left R1 hk
      have hle : ¬ w_i w1 26 4 ≤ Int32.ofNat k := fun p => absurd ((RM_le R1 (by omega)).mp p) (by omega)
      have ei : 121 * (w_a w1 28).getD (Int32.ofNat k).toNatClampNeg 0 + 11 * Int32.ofNat p + Int32.ofNat p + Int32.ofNat n = Int32.ofNat (121 * G[k].1 + 11 * p + (p + n)) := by
        rw [el, ix210, i_add]; congr 1; omega
      have oi : gk_out (121 * (w_a w1 28).getD (Int32.ofNat k).toNatClampNeg 0 + 11 * Int32.ofNat p + Int32.ofNat p + Int32.ofNat n) 1936 = false := by rw [ei]; exact o_ok (by omega) (by omega)
      have eq : Int32.ofNat p + Int32.ofNat n = Int32.ofNat (p + n) := i_add _ _
      obtain ⟨w2, e2, s2, f2⟩ := E209 (d := d) (C := Cs wd G) s1 R1 W1 hk (hG _ (List.getElem_mem hk)) (show p < p + n by omega) hp (fun v a b hv hab hb hDab => t1 v a b hv hab hb (hD a b (by omega) hab (by omega))) (fun v a b hv ha hab hb => Cs_le hG hab (by omega))
      have e45 : w_a w2 45 = w_a w1 45 := Fr_a f2 (by decide)
      have hl := (w_int s2 ly_45).2
      have hcl : (G.take k).foldl (wf wd (Cs wd G) G[k].1 p (p + n)) 0 ≤ 1000000 := wf_le _ _ (by omega)
      have hwl : wr wd (Cs wd G) G[k] p (p + n) ≤ 1000000 := PM_D
      have et : ∀ v, (G.take (k + 1)).foldl (wf wd (Cs wd G) v p (p + n)) 0 = wf wd (Cs wd G) v p (p + n) ((G.take k).foldl (wf wd (Cs wd G) v p (p + n)) 0) G[k] := fun v => by
        rw [List.take_succ_eq_append_getElem hk, List.foldl_append]; rfl
      have ev : f_211 ((((w_a w1 45).getD (121 * (w_a w1 28).getD (Int32.ofNat k).toNatClampNeg 0 + 11 * Int32.ofNat p + Int32.ofNat p + Int32.ofNat n).toNatClampNeg 0).toInt64) + (Int32.ofNat (wr wd (Cs wd G) G[k] p (p + n))).toInt64) = Int32.ofNat (cap ((G.take k).foldl (wf wd (Cs wd G) G[k].1 p (p + n)) 0 + wr wd (Cs wd G) G[k] p (p + n))) := by
        rw [ei, i_nat (by omega), c1 _ h16, i64_of (by omega), i64_of (by omega), ← Int64.ofNat_add, f_211_c (by omega)]
      refine ⟨(), _, ⟨sh_as s2 ly_45 (121 * G[k].1 + 11 * p + (p + n)) _, Fr_trans f1 (Fr_trans (Fr_mono f2 (by simp) (by simp)) (Fr_sa (by simp) _)), fun v hv => ?_, fun v a b hv hab hb hDab => ?_, fun v a b hv hab hb hDab => ?_⟩, fun r w' h => sg_208_98 (d := d + 1) s1 _ _ _ ⟨fun p => absurd p hle, fun _ => ⟨RM_out R1 hk, oi, _, w2, by rw [eq]; exact e2, s2, oi, by rw [ev, ei, i_nat (by omega), i_s]; exact h⟩⟩⟩
      · rw [w_a_same s2 ly_45, getD_set32 _ (by omega), et]
        unfold wf
        by_cases e : G[k].1 = v
        · rw [if_pos (by omega), if_pos e, ← e]
        · rw [if_neg (by omega), if_neg e, e45]; exact c1 v hv
      · have hne : ¬ (a = p ∧ b = p + n) := fun e => hDn (by rw [← e.2, ← e.1]; exact hDab)
        rw [w_a_same s2 ly_45, getD_set32 _ (by omega), if_neg (fun e => hne (idx3 (by omega) (by omega) (by omega) (by omega) e)), e45]
        exact t1 v a b hv hab hb hDab
      · rw [w_a_same s2 ly_45, getD_set32 _ (by omega), if_neg (fun e => hDab (Or.inr (idx3 (by omega) (by omega) (by omega) (by omega) e))), e45]
        exact z1 v a b hv hab hb hDab) G.length 0 () w (by omega) ⟨hS, Fr_refl, fun v hv => hZ v p (p + n) hv (by omega) (by omega) hDn, hT, fun v a b hv hab hb h => hZ v a b hv hab hb fun q => h (Or.inl q)⟩
  rw [List.take_of_length_le (Nat.le_refl _)] at c1
  have R1 : RM w1 4 28 G := RM_Fr hR f1 (by decide) (by simp)
  refine ⟨w1, s1, f1, fun v a b hv hab hb hDab => ?_, z1, Go_trans g1 fun r w' h => sg_208_98 (d := d + 1) s1 _ _ _ ⟨fun _ => by rw [i_s]; exact h, fun p => absurd ((RM_le R1 (by omega)).mpr (Nat.le_refl _)) p⟩⟩
  rcases hDab with h | h
  · exact t1 v a b hv hab hb h
  · rw [h.1, h.2, c1 v hv, Cs_eq hG (by omega) (by omega)]
theorem E208_y (hS : gk_Sh rr w) (hR : RM w 4 28 G) (hW : WM w wd) (hG : G.all wkB = true) : ∃ w', gk_E (d + 3) 208 [.ref 27] w (.inl (some (.int (Int32.ofNat (wsN wd G))))) w' ∧ gk_Sh rr w' ∧ Fr [45, 52, 53] [(26, 0)] w w' ∧ w_i w' 26 0 = 0 := by
  have hL := hW.2.1
  have h60 := RM_60 hR
  have hGm : ∀ r ∈ G, wOk r := fun r hr => wkB_ok (List.all_eq_true.mp hG r hr)
  have s0 := sh_si hS ly_26 (k := 0) rfl 0
  have f0 : Fr [] [(26, 0)] w (w_si w 26 0 0) := Fr_si (by decide) _
  obtain ⟨w1, s1, f1, h1, g1⟩ := E208_c (d := d + 1) s0 (RM_Fr hR f0 (by simp) (by decide)) (w_i_same hS ly_26 rfl)
  rw [hG] at h1
  have f01 : Fr [] [(26, 0)] w w1 := Fr_trans f0 f1
  have R1 : RM w1 4 28 G := RM_Fr hR f01 (by simp) (by decide)
  have W1 := WM_Fr hW f01 (by simp) (by decide)
  obtain ⟨-, w2, ⟨s2, f2, z2⟩, g2⟩ := up_loop (α := Unit) (d := d + 3) (mi := 208) (pc := 54) 1936 (fun k _ => [some (.ref 27), some (.int (Int32.ofNat k)), none, none, none])
    (fun k _ w2 => gk_Sh rr w2 ∧ Fr [45, 52, 53] [] w1 w2 ∧ ∀ i, i < k → (w_a w2 45).getD i 0 = 0)
    (fun k _ w2 hk hI => by
      obtain ⟨s2, f2, z2⟩ := hI
      have hl := (w_int s2 ly_45).2
      refine ⟨(), _, ⟨sh_as s2 ly_45 k 0, Fr_trans f2 (Fr_sa (by simp) _), fun i hi => ?_⟩, fun r w' h => sg_208_54 (d := d + 1) s2 _ ⟨fun p => absurd ((i_le (a := 1936) (by omega) (by omega)).mp p) (by omega), fun _ => ⟨o_ok (by omega) (by omega), by rw [i_nat (by omega), i_s]; exact h⟩⟩⟩
      rw [w_a_same s2 ly_45, getD_set32 _ (by omega)]
      by_cases e : i = k
      · rw [if_pos e]
      · rw [if_neg e]; exact z2 i (by omega)) 1936 0 () w1 (by omega) ⟨s1, Fr_refl, fun i hi => by omega⟩
  have hfin : ∀ w3, Fr [45, 52, 53] [] w1 w3 → gk_Sh rr w3 → (w_a w3 45).getD wd.length 0 = Int32.ofNat (wsN wd G) → gk_W none (d + 3) 208 76 [some (.ref 27), some (.int (Int32.ofNat (wd.length + 1))), none, none, none] [] w3 (.inl (some (.int (Int32.ofNat (wsN wd G))))) w3 := fun w3 f3 s3 h3 => by
    have W3 := WM_Fr W1 f3 (by decide) (by simp)
    refine sg_208_76 (d := d + 1) s3 _ ⟨fun _ => ⟨by rw [W3.1]; exact o_ok (by omega) (by omega), by rw [W3.1, i_nat (by omega), h3], rfl⟩, fun p => absurd ?_ p⟩
    rw [W3.1]; exact (i_lt (by omega) (by omega)).mpr (by omega)
  have hgo : ∀ (r : gk_Res) (w' : gk_Wd), gk_W none (d + 3) 208 76 [some (.ref 27), some (.int (Int32.ofNat 1)), none, none, none] [] w2 r w' → gk_E (d + 3) 208 [.ref 27] w r w' := fun r w' h => by
    have y0 : w_i w1 26 0 = 0 := by rw [h1]; rfl
    exact gk_E_i rfl rfl (sg_208_0 (d := d + 1) hS (g1 _ _ (sg_208_7 (d := d + 1) s1 _ ⟨fun _ => ⟨fun _ => g2 _ _ (sg_208_54 (d := d + 1) s2 _ ⟨fun _ => h, fun p => absurd (by decide) p⟩), fun p => absurd y0 p⟩, fun p => absurd ((RM_le R1 (by omega)).mpr (Nat.le_refl _)) p⟩)))
  obtain ⟨-, w3, ⟨hn3, s3, f3, t3, z3, y3⟩, g3⟩ := up_loop (α := Unit) (d := d + 3) (mi := 208) (pc := 76) (wd.length + 1) (fun n _ => [some (.ref 27), some (.int (Int32.ofNat n)), none, none, none])
    (fun n _ w3 => 1 ≤ n ∧ gk_Sh rr w3 ∧ Fr [45, 52, 53] [] w1 w3 ∧ TC w3 45 (Cs wd G) (fun a b => b - a < n ∧ b ≤ wd.length) ∧ (∀ v a b, v < 16 → a < b → b ≤ 10 → ¬ (b - a < n ∧ b ≤ wd.length) → (w_a w3 45).getD (121 * v + 11 * a + b) 0 = 0) ∧ (wd.length = 0 → (w_a w3 45).getD 0 0 = 0))
    (fun n _ w3 hn hI => by
      obtain ⟨hn1, s3, f3, t3, z3, y3⟩ := hI
      have W3 := WM_Fr W1 f3 (by decide) (by simp)
      have hle : ¬ w_i w3 26 24 < Int32.ofNat n := by
        rw [W3.1]; intro p
        exact absurd ((i_lt (by omega) (by omega)).mp p) (by omega)
      obtain ⟨-, w4, ⟨s4, f4, t4, z4⟩, g4⟩ := up_loop (α := Unit) (d := d + 3) (mi := 208) (pc := 86) (wd.length - n + 1) (fun p _ => [some (.ref 27), some (.int (Int32.ofNat n)), some (.int (Int32.ofNat p)), none, none])
        (fun p _ w4 => gk_Sh rr w4 ∧ Fr [45, 52, 53] [] w1 w4 ∧ TC w4 45 (Cs wd G) (fun a b => (b - a < n ∧ b ≤ wd.length) ∨ (b = a + n ∧ a < p)) ∧ ∀ v a b, v < 16 → a < b → b ≤ 10 → ¬ ((b - a < n ∧ b ≤ wd.length) ∨ (b = a + n ∧ a < p)) → (w_a w4 45).getD (121 * v + 11 * a + b) 0 = 0)
        (fun p _ w4 hp hI => by
          obtain ⟨s4, f4, t4, z4⟩ := hI
          have W4 := WM_Fr W1 f4 (by decide) (by simp)
          have hle : ¬ w_i w4 26 24 < Int32.ofNat p + Int32.ofNat n := by
            rw [W4.1, i_add]; intro q
            exact absurd ((i_lt (by omega) (by omega)).mp q) (by omega)
          obtain ⟨w5, s5, f5, t5, z5, g5⟩ := E208_p (d := d) s4 (RM_Fr R1 f4 (by decide) (by simp)) W4 hGm hn1 (show p + n ≤ wd.length by omega) t4 z4 (fun a b h1 h2 h3 => Or.inl ⟨h1, h3⟩) (by
            rintro (h | h)
            · omega
            · omega)
          refine ⟨(), w5, ⟨s5, Fr_trans f4 f5, fun v a b hv hab hb hD => t5 v a b hv hab hb ?_, fun v a b hv hab hb hD => z5 v a b hv hab hb ?_⟩, fun r w' h => sg_208_86 (d := d + 1) s4 _ _ ⟨fun q => absurd q hle, fun _ => g5 r w' h⟩⟩
          · rcases hD with h | ⟨h1, h2⟩
            · exact Or.inl (Or.inl h)
            · by_cases e : a = p
              · exact Or.inr ⟨e, by omega⟩
              · exact Or.inl (Or.inr ⟨h1, by omega⟩)
          · rintro ((h | ⟨h1, h2⟩) | ⟨h1, h2⟩)
            · exact hD (Or.inl h)
            · exact hD (Or.inr ⟨h1, by omega⟩)
            · exact hD (Or.inr ⟨by omega, by omega⟩)) (wd.length - n + 1) 0 () w3 (by omega) ⟨s3, f3, fun v a b hv hab hb hD => t3 v a b hv hab hb (by
          rcases hD with h | ⟨h1, h2⟩
          · exact h
          · omega), fun v a b hv hab hb hD => z3 v a b hv hab hb fun q => hD (Or.inl q)⟩
      have W4 := WM_Fr W1 f4 (by decide) (by simp)
      refine ⟨(), w4, ⟨by omega, s4, f4, fun v a b hv hab hb hD => t4 v a b hv hab hb ?_, fun v a b hv hab hb hD => z4 v a b hv hab hb ?_, fun h0 => by omega⟩, fun r w' h => sg_208_76 (d := d + 1) s3 _ ⟨fun q => absurd q hle, fun _ => g4 r w' (sg_208_86 (d := d + 1) s4 _ _ ⟨fun _ => by rw [i_s]; exact h, fun q => absurd ?_ q⟩)⟩⟩
      · by_cases e : b - a < n
        · exact Or.inl ⟨e, hD.2⟩
        · exact Or.inr ⟨by omega, by omega⟩
      · rintro (h | ⟨h1, h2⟩)
        · exact hD ⟨by omega, h.2⟩
        · exact hD ⟨by omega, by omega⟩
      · rw [W4.1, i_add]; exact (i_lt (by omega) (by omega)).mpr (by omega)) wd.length 1 () w2 (by omega) ⟨by omega, s2, f2, fun v a b hv hab hb hD => by omega, fun v a b hv hab hb hD => z2 _ (by omega), fun _ => z2 0 (by omega)⟩
  have hres : (w_a w3 45).getD wd.length 0 = Int32.ofNat (wsN wd G) := by
    unfold wsN
    by_cases h0 : wd.length = 0
    · rw [if_pos h0]
      have := y3 h0
      rw [h0]; exact this
    · rw [if_neg h0]
      have := t3 0 0 wd.length (by omega) (by omega) hL ⟨by omega, Nat.le_refl _⟩
      rw [show 121 * 0 + 11 * 0 + wd.length = wd.length by omega] at this
      exact this
  refine ⟨w3, hgo _ _ (g3 _ _ (hfin w3 f3 s3 hres)), s3, Fr_trans (Fr_mono f01 (by simp) (by simp)) (Fr_mono f3 (by simp) (by simp)), by rw [Fr_i f3 (by simp), h1]; rfl⟩
end MWZ
