/-! part 73: ways of the reference -/
section MWY
variable {d : Nat} {rr : List gk_S} {w : gk_Wd} {wd : List Nat} {G : List Rl} {C : CT}
theorem ix210 (v i j : Nat) : 121 * Int32.ofNat v + 11 * Int32.ofNat i + Int32.ofNat j = Int32.ofNat (121 * v + 11 * i + j) := by
  rw [show (121 : Int32) = Int32.ofNat 121 from rfl, show (11 : Int32) = Int32.ofNat 11 from rfl, i_mul, i_mul, i_add, i_add]
/-- waysOf -/
theorem f_210_W (hW : WM w wd) {s i j : Nat} (hs : s < 22) (hij : i < j) (hj : j ≤ wd.length) (hT : s < 16 → (w_a w 45).getD (121 * s + 11 * i + j) 0 = Int32.ofNat (C s i j)) : f_210 w (Int32.ofNat s) (Int32.ofNat i) (Int32.ofNat j) = Int32.ofNat (wy wd C s i j) := by
  have hL := hW.2.1
  unfold f_210 wy
  by_cases h16 : s < 16
  · rw [if_neg (by rw [f_163_n (by omega)]; omega), if_pos h16, ix210, i_nat (by omega)]
    exact hT h16
  · rw [if_pos (by rw [f_163_n (by omega)]; omega), if_neg h16, i_s]
    have e1 : Int32.ofNat j = Int32.ofNat (i + 1) ↔ j = i + 1 := i_eq (by omega) (by omega)
    by_cases h1 : j = i + 1
    · rw [if_neg (fun q => q (e1.mpr h1))]
      have e2 := word_el hL hW.2.2.1 hW.2.2.2 (k := i) (by omega) hs
      by_cases h2 : wd[i]? = some s
      · rw [if_neg (fun q => q (e2.mpr h2)), if_pos ⟨h1, h2⟩]; rfl
      · rw [if_pos (fun q => h2 (e2.mp q)), if_neg (fun q => h2 q.2)]; rfl
    · rw [if_pos (fun q => h1 (e1.mp q)), if_neg (fun q => h1 q.1)]; rfl
/-- the sum for one place -/
theorem E209_s (hS : gk_Sh rr w) (hR : RM w 4 28 G) (hW : WM w wd) {r k : Nat} (hr : r < G.length) (hk : k < G[r].2.length) (h2l : 2 ≤ G[r].2.length) {i q j : Nat} (hiq : i < q) (hq : q ≤ wd.length) (hj : j ≤ 10) (hT : TC w 45 C (fun a b => i ≤ a ∧ b ≤ q ∧ ¬ (a = i ∧ b = q))) (hC : ∀ v a b, v < 16 → i ≤ a → a < b → b ≤ q → C v a b ≤ 1000000) (hP : ∀ a, a ≤ 10 → (w_a w 52).getD a 0 = Int32.ofNat (PM wd C G[r].2 i q k a)) : Go (d + 2) 209 87 [some (.ref 27), some (.int (Int32.ofNat r)), some (.int (Int32.ofNat i)), some (.int (Int32.ofNat q)), some (.int (Int32.ofNat k)), some (.int (Int32.ofNat j)), some (.long 0), none, some (.int (Int32.ofNat i)), none] w 74 [some (.ref 27), some (.int (Int32.ofNat r)), some (.int (Int32.ofNat i)), some (.int (Int32.ofNat q)), some (.int (Int32.ofNat k)), some (.int (Int32.ofNat (j + 1))), none, none, none, none] (w_sa w 53 ((w_a w 53).set j (Int32.ofNat (PM wd C G[r].2 i q (k + 1) j)))) := by
  have hL := hW.2.1
  have hok := RM_ok hR hr
  have h10 := hok.2.1
  have hsy := hok.2.2 _ (List.getElem_mem hk)
  have ea := RM_at hR hr hk
  have egd : G[r].2.getD k 0 = G[r].2[k] := by rw [List.getD_eq_getElem?_getD, List.getElem?_eq_getElem hk]; rfl
  have o11j : gk_out (Int32.ofNat j) 11 = false := o_ok (by omega) (by omega)
  have e0 : f_211 0 = Int32.ofNat 0 := f_211_c (x := 0) (by omega)
  by_cases hjq : j ≤ i ∨ q < j
  · have ez : PM wd C G[r].2 i q (k + 1) j = 0 := by
      rcases hjq with h | h
      · exact PM_low _ _ _ _ _ _ _ (by omega)
      · simp only [PM]; rw [if_neg (by omega)]
    rw [ez]
    intro x w' h
    refine sg_209_87 (d := d) hS _ _ _ _ _ _ _ ⟨fun _ => ⟨o11j, by rw [i_nat (by omega), e0, i_s]; exact h⟩, fun p => ⟨fun _ => ⟨o11j, by rw [i_nat (by omega), e0, i_s]; exact h⟩, fun p2 => ?_⟩⟩
    rcases hjq with h1 | h1
    · exact absurd ((i_le (by omega) (by omega)).mpr h1) p
    · exact absurd ((i_lt (by omega) (by omega)).mpr h1) p2
  · have hij : i < j := by omega
    have hjq2 : j ≤ q := by omega
    generalize hf : (fun a => if 2 ≤ G[r].2.length ∧ a = i ∧ j = q then 0 else PM wd C G[r].2 i q k a * wy wd C (G[r].2.getD k 0) a j) = f
    have hfv : ∀ a, f a = if 2 ≤ G[r].2.length ∧ a = i ∧ j = q then 0 else PM wd C G[r].2 i q k a * wy wd C G[r].2[k] a j := fun a => by
      rw [← hf, egd]
    have hfb : ∀ t, t < j - i → f (i + t) ≤ 1000000000000 := fun t ht => by
      rw [hfv]
      split
      · omega
      · have h1 : PM wd C G[r].2 i q k (i + t) ≤ 1000000 := PM_D
        have h2 := wy_le (wd := wd) (C := C) (s := G[r].2[k]) (i := i + t) (j := j) (fun h => hC _ (i + t) j h (by omega) (by omega) hjq2)
        calc PM wd C G[r].2 i q k (i + t) * wy wd C G[r].2[k] (i + t) j ≤ 1000000 * 1000000 := Nat.mul_le_mul h1 h2
          _ = 1000000000000 := rfl
    have hsum : sK f i (j - i) ≤ 10000000000000 := by
      have := sK_le (f := f) (a := i) (b := 1000000000000) (m := j - i) hfb
      have h2 : (j - i) * 1000000000000 ≤ 10 * 1000000000000 := Nat.mul_le_mul_right _ (by omega)
      omega
    have nqj : ¬ Int32.ofNat q < Int32.ofNat j := fun p => absurd ((i_lt (by omega) (by omega)).mp p) (by omega)
    obtain ⟨-, w1, rfl, g1⟩ := up_loop (α := Unit) (d := d + 2) (mi := 209) (pc := 87) (j - i) (fun t _ => [some (.ref 27), some (.int (Int32.ofNat r)), some (.int (Int32.ofNat i)), some (.int (Int32.ofNat q)), some (.int (Int32.ofNat k)), some (.int (Int32.ofNat j)), some (.long (Int64.ofNat (sK f i t))), none, some (.int (Int32.ofNat (i + t))), none])
      (fun t _ w1 => w1 = w)
      (fun t _ w1 ht hI => by
        obtain rfl := hI
        have hle : ¬ Int32.ofNat j ≤ Int32.ofNat (i + t) := fun p => absurd ((i_le (by omega) (by omega)).mp p) (by omega)
        have o11 : gk_out (Int32.ofNat (i + t)) 11 = false := o_ok (by omega) (by omega)
        have hPl : PM wd C G[r].2 i q k (i + t) ≤ 1000000 := PM_D
        have eP : (w_a w1 52).getD (Int32.ofNat (i + t)).toNatClampNeg 0 = Int32.ofNat (PM wd C G[r].2 i q k (i + t)) := by
          rw [i_nat (by omega)]; exact hP _ (by omega)
        have eP0 : (w_a w1 52).getD (Int32.ofNat (i + t)).toNatClampNeg 0 ≤ 0 ↔ PM wd C G[r].2 i q k (i + t) = 0 := by
          rw [eP]
          have := i_le (a := PM wd C G[r].2 i q k (i + t)) (b := 0) (by omega) (by omega)
          rw [show (0 : Int32) = Int32.ofNat 0 from rfl, this]; omega
        have ei : Int32.ofNat (i + t) = Int32.ofNat i ↔ i + t = i := i_eq (by omega) (by omega)
        have ej : Int32.ofNat j = Int32.ofNat q ↔ j = q := i_eq (by omega) (by omega)
        refine ⟨(), w1, rfl, fun x w' h => ?_⟩
        simp only [sK] at h
        have hskip : f (i + t) = 0 → gk_W none (d + 2) 209 87 [some (.ref 27), some (.int (Int32.ofNat r)), some (.int (Int32.ofNat i)), some (.int (Int32.ofNat q)), some (.int (Int32.ofNat k)), some (.int (Int32.ofNat j)), some (.long (Int64.ofNat (sK f i t))), none, some (.int (Int32.ofNat (i + t) + 1)), none] [] w1 x w' := fun hz => by
          rw [hz, Nat.add_zero] at h
          rw [i_s]; exact h
        have hterm : ¬ (2 ≤ G[r].2.length ∧ i + t = i ∧ j = q) → gk_W none (d + 2) 209 87 [some (.ref 27), some (.int (Int32.ofNat r)), some (.int (Int32.ofNat i)), some (.int (Int32.ofNat q)), some (.int (Int32.ofNat k)), some (.int (Int32.ofNat j)), some (.long (Int64.ofNat (sK f i t) + ((w_a w1 52).getD (Int32.ofNat (i + t)).toNatClampNeg 0).toInt64 * (f_210 w1 (f_151 w1 (Int32.ofNat r) (Int32.ofNat k)) (Int32.ofNat (i + t)) (Int32.ofNat j)).toInt64)), none, some (.int (Int32.ofNat (i + t) + 1)), none] [] w1 x w' := fun hne => by
          have hw := f_210_W (C := C) hW hsy (show i + t < j by omega) (by omega) (fun h16 => hT _ _ _ h16 (by omega) (by omega) ⟨by omega, hjq2, fun e => hne ⟨h2l, e.1, e.2⟩⟩)
          have hwl := wy_le (wd := wd) (C := C) (s := G[r].2[k]) (i := i + t) (j := j) (fun h => hC _ (i + t) j h (by omega) (by omega) hjq2)
          rw [hfv, if_neg hne] at h
          rw [eP, ea, hw, i64_of (by omega), i64_of (by omega), ← Int64.ofNat_mul, ← Int64.ofNat_add, i_s]
          exact h
        have hz0 : PM wd C G[r].2 i q k (i + t) = 0 → f (i + t) = 0 := fun hz => by
          rw [hfv, hz, Nat.zero_mul]; split <;> rfl
        have ol : ∀ a b : Prop, a → b → gk_out (Int32.ofNat (i + t)) 10 = false := fun _ _ _ _ => o_ok (by omega) (by omega)
        have oc : ¬ f_163 (f_151 w1 (Int32.ofNat r) (Int32.ofNat k)) = 0 → gk_out (121 * f_151 w1 (Int32.ofNat r) (Int32.ofNat k) + 11 * Int32.ofNat (i + t) + Int32.ofNat j) 1936 = false := fun p => by
          rw [ea, f_163_n (by omega)] at p
          rw [ea, ix210]; exact o_ok (by omega) (by omega)
        refine sg_209_87 (d := d) hS _ _ _ _ _ _ _ ⟨fun p => absurd p hle, fun _ => ⟨fun p => absurd p nqj, fun _ => ⟨fun p => ⟨o11, fun p2 => ?_, fun p2 => ⟨o11, RM_io hR hr (by omega), fun _ _ => o_ok (by omega) (by omega), oc, ?_⟩⟩, fun p => ⟨fun p2 => ⟨o11, fun p3 => ?_, fun p3 => ⟨o11, RM_io hR hr (by omega), fun _ _ => o_ok (by omega) (by omega), oc, ?_⟩⟩, fun p2 => ⟨o11, fun p3 => ?_, fun p3 => ?_⟩⟩⟩⟩⟩
        · exact hskip (hz0 (eP0.mp p2))
        · exact hterm fun e => p (ei.mpr e.2.1)
        · exact hskip (hz0 (eP0.mp p3))
        · exact hterm fun e => p2 (ej.mpr e.2.2)
        · exact hskip (hz0 (eP0.mp p3))
        · refine hskip ?_
          rw [hfv, if_pos ⟨h2l, ei.mp p, ej.mp p2⟩]) (j - i) 0 () w (by omega) rfl
    have ev : PM wd C G[r].2 i q (k + 1) j = cap (sK f i (j - i)) := by
      simp only [PM]
      rw [if_pos hjq2, hf]
    rw [ev]
    refine Go_trans g1 fun x w' h => sg_209_87 (d := d) hS _ _ _ _ _ _ _ ⟨fun _ => ⟨o11j, ?_⟩, fun p => absurd ((i_le (by omega) (by omega)).mpr (by omega)) p⟩
    rw [f_211_c (by omega), i_nat (by omega), i_s]; exact h
/-- waysOfRule -/
theorem E209 (hS : gk_Sh rr w) (hR : RM w 4 28 G) (hW : WM w wd) {r : Nat} (hr : r < G.length) (hok : wOk G[r]) {i q : Nat} (hiq : i < q) (hq : q ≤ wd.length) (hT : TC w 45 C (fun a b => i ≤ a ∧ b ≤ q ∧ ¬ (a = i ∧ b = q))) (hC : ∀ v a b, v < 16 → i ≤ a → a < b → b ≤ q → C v a b ≤ 1000000) : ∃ w', gk_E (d + 2) 209 [.ref 27, .int (Int32.ofNat r), .int (Int32.ofNat i), .int (Int32.ofNat q)] w (.inl (some (.int (Int32.ofNat (wr wd C G[r] i q))))) w' ∧ gk_Sh rr w' ∧ Fr [52, 53] [] w w' := by
  have hL := hW.2.1
  have hokr := RM_ok hR hr
  have h10 := hokr.2.1
  have hn0 : 0 < G[r].2.length := by
    have := hok.1
    unfold neB at this
    have h2 : ¬ G[r].2.length = 0 := by simpa using this
    omega
  have e1 : (w_a w 29).getD (Int32.ofNat r).toNatClampNeg 0 = 1 ↔ G[r].2.length = 1 := by
    have es : (w_a w 29).getD (Int32.ofNat r).toNatClampNeg 0 = Int32.ofNat G[r].2.length := RM_size hR hr
    rw [es]; exact i_eq (b := 1) (by omega) (by omega)
  by_cases h1 : G[r].2.length = 1
  · have hlt := wOk_letter hok h1
    have h22 := hd_22 hokr hn0
    have ehd := RM_hd hR hr hn0
    have hw := f_210_W (C := C) (s := G[r].2.headD 0) hW h22 hiq hq (fun h => by omega)
    have ev : wr wd C G[r] i q = wy wd C (G[r].2.headD 0) i q := by
      unfold wr
      rw [h1]
      have e0 : PM wd C G[r].2 i q 1 q = cap (sK (fun a => if 2 ≤ G[r].2.length ∧ a = i ∧ q = q then 0 else (if a = i then 1 else 0) * wy wd C (G[r].2.getD 0 0) a q) i (q - i)) := if_pos (Nat.le_refl q)
      rw [e0]
      have eg : G[r].2.getD 0 0 = G[r].2.headD 0 := by
        rw [List.getD_eq_getElem?_getD, List.getElem?_eq_getElem hn0, headD_at hn0]; rfl
      have es : sK (fun a => if 2 ≤ G[r].2.length ∧ a = i ∧ q = q then 0 else (if a = i then 1 else 0) * wy wd C (G[r].2.getD 0 0) a q) i (q - i) = wy wd C (G[r].2.headD 0) i q := by
        obtain ⟨m, hm⟩ : ∃ m, q - i = m + 1 := ⟨q - i - 1, by omega⟩
        rw [hm]
        have : ∀ m, sK (fun a => if 2 ≤ G[r].2.length ∧ a = i ∧ q = q then 0 else (if a = i then 1 else 0) * wy wd C (G[r].2.getD 0 0) a q) i (m + 1) = wy wd C (G[r].2.headD 0) i q := fun m => by
          induction m with
          | zero =>
            simp only [sK]
            rw [if_neg (by omega), if_pos (by omega), eg]
            simp
          | succ m ih =>
            rw [show sK (fun a => if 2 ≤ G[r].2.length ∧ a = i ∧ q = q then 0 else (if a = i then 1 else 0) * wy wd C (G[r].2.getD 0 0) a q) i (m + 1 + 1) = sK (fun a => if 2 ≤ G[r].2.length ∧ a = i ∧ q = q then 0 else (if a = i then 1 else 0) * wy wd C (G[r].2.getD 0 0) a q) i (m + 1) + (fun a => if 2 ≤ G[r].2.length ∧ a = i ∧ q = q then 0 else (if a = i then 1 else 0) * wy wd C (G[r].2.getD 0 0) a q) (i + (m + 1)) from rfl, ih]
            simp only
            rw [if_neg (by omega), if_neg (by omega), Nat.zero_mul, Nat.add_zero]
        exact this m
      rw [es]
      exact cap_id (wy_le fun h => by omega)
    refine ⟨w, gk_E_i rfl rfl (sg_209_0 (d := d) hS _ _ _ ⟨RM_out hR hr, fun p => absurd (e1.mpr h1) p, fun _ => ⟨RM_io hR hr (k := 0) (by omega), fun _ _ => o_ok (by omega) (by omega), fun p => ?_, ?_, rfl⟩⟩), hS, Fr_refl⟩
    · rw [ehd, f_163_n (by omega)] at p; omega
    · rw [ehd, hw, ev]
  · have h2l : 2 ≤ G[r].2.length := by omega
    obtain ⟨-, w1, ⟨s1, f1, h1'⟩, g1⟩ := up_loop (α := Unit) (d := d + 2) (mi := 209) (pc := 26) 11 (fun t _ => [some (.ref 27), some (.int (Int32.ofNat r)), some (.int (Int32.ofNat i)), some (.int (Int32.ofNat q)), some (.int (Int32.ofNat t)), none, none, none, none, none])
      (fun t _ w1 => gk_Sh rr w1 ∧ Fr [52, 53] [] w w1 ∧ ∀ j, j < t → (w_a w1 52).getD j 0 = Int32.ofNat (PM wd C G[r].2 i q 0 j))
      (fun t _ w1 ht hI => by
        obtain ⟨s1, f1, h1'⟩ := hI
        have hl := (w_int s1 ly_52).2
        have hle : ¬ (10 : Int32) < Int32.ofNat t := fun p => absurd ((i_lt (a := 10) (by omega) (by omega)).mp p) (by omega)
        have o11 : gk_out (Int32.ofNat t) 11 = false := o_ok (by omega) (by omega)
        have ee : Int32.ofNat t = Int32.ofNat i ↔ t = i := i_eq (by omega) (by omega)
        have key : ∀ x : Int32, x = Int32.ofNat (PM wd C G[r].2 i q 0 t) → gk_Sh rr (w_sa w1 52 ((w_a w1 52).set t x)) ∧ Fr [52, 53] [] w (w_sa w1 52 ((w_a w1 52).set t x)) ∧ ∀ j, j < t + 1 → (w_a (w_sa w1 52 ((w_a w1 52).set t x)) 52).getD j 0 = Int32.ofNat (PM wd C G[r].2 i q 0 j) := fun x hx => by
          refine ⟨sh_as s1 ly_52 t x, Fr_trans f1 (Fr_sa (by simp) _), fun j hj => ?_⟩
          rw [w_a_same s1 ly_52, getD_set32 _ (by omega)]
          by_cases e : j = t
          · rw [if_pos e, hx, e]
          · rw [if_neg e]; exact h1' j (by omega)
        by_cases h0 : t = i
        · refine ⟨(), _, key 1 (by simp only [PM]; rw [if_pos h0]; rfl), fun x w' h => sg_209_26 (d := d) s1 _ _ _ _ ⟨fun p => absurd p hle, fun _ => ⟨fun p => absurd (ee.mpr h0) p, fun _ => ⟨o11, by rw [i_nat (by omega), i_s]; exact h⟩⟩⟩⟩
        · refine ⟨(), _, key 0 (by simp only [PM]; rw [if_neg h0]; rfl), fun x w' h => sg_209_26 (d := d) s1 _ _ _ _ ⟨fun p => absurd p hle, fun _ => ⟨fun _ => ⟨o11, by rw [i_nat (by omega), i_s]; exact h⟩, fun p => absurd (ee.mp p) h0⟩⟩⟩) 11 0 () w (by omega) ⟨hS, Fr_refl, fun j hj => by omega⟩
    obtain ⟨-, w2, ⟨s2, f2, h2'⟩, g2⟩ := up_loop (α := Unit) (d := d + 2) (mi := 209) (pc := 60) G[r].2.length (fun k _ => [some (.ref 27), some (.int (Int32.ofNat r)), some (.int (Int32.ofNat i)), some (.int (Int32.ofNat q)), some (.int (Int32.ofNat k)), none, none, none, none, none])
      (fun k _ w2 => gk_Sh rr w2 ∧ Fr [52, 53] [] w w2 ∧ ∀ j, j < 11 → (w_a w2 52).getD j 0 = Int32.ofNat (PM wd C G[r].2 i q k j))
      (fun k _ w2 hk hI => by
        obtain ⟨s2, f2, h2'⟩ := hI
        have R2 : RM w2 4 28 G := RM_Fr hR f2 (by decide) (by simp)
        have hsz : ¬ (w_a w2 29).getD (Int32.ofNat r).toNatClampNeg 0 ≤ Int32.ofNat k := fun p => absurd ((RM_sz R2 hr (by omega)).mp p) (by omega)
        obtain ⟨-, w3, ⟨s3, f3, k3, h3'⟩, g3⟩ := up_loop (α := Unit) (d := d + 2) (mi := 209) (pc := 74) 11 (fun j _ => [some (.ref 27), some (.int (Int32.ofNat r)), some (.int (Int32.ofNat i)), some (.int (Int32.ofNat q)), some (.int (Int32.ofNat k)), some (.int (Int32.ofNat j)), none, none, none, none])
          (fun j _ w3 => gk_Sh rr w3 ∧ Fr [52, 53] [] w w3 ∧ (∀ a, a < 11 → (w_a w3 52).getD a 0 = Int32.ofNat (PM wd C G[r].2 i q k a)) ∧ ∀ a, a < j → (w_a w3 53).getD a 0 = Int32.ofNat (PM wd C G[r].2 i q (k + 1) a))
          (fun j _ w3 hj hI => by
            obtain ⟨s3, f3, k3, h3'⟩ := hI
            have hl := (w_int s3 ly_53).2
            have hle : ¬ (10 : Int32) < Int32.ofNat j := fun p => absurd ((i_lt (a := 10) (by omega) (by omega)).mp p) (by omega)
            have gs := E209_s (d := d) (C := C) s3 (RM_Fr hR f3 (by decide) (by simp)) (WM_Fr hW f3 (by decide) (by simp)) hr hk h2l hiq hq (show j ≤ 10 by omega) (TC_congr hT (Fr_a f3 (by decide))) hC (fun a ha => k3 a (by omega))
            refine ⟨(), _, ⟨sh_as s3 ly_53 j _, Fr_trans f3 (Fr_sa (by simp) _), fun a ha => by rw [w_a_ne (by decide)]; exact k3 a ha, fun a ha => ?_⟩, fun x w' h => sg_209_74 (d := d) s3 _ _ _ _ _ ⟨fun p => absurd p hle, fun _ => gs x w' h⟩⟩
            rw [w_a_same s3 ly_53, getD_set32 _ (by omega)]
            by_cases e : a = j
            · rw [if_pos e, e]
            · rw [if_neg e]; exact h3' a (by omega)) 11 0 () w2 (by omega) ⟨s2, f2, h2', fun a ha => by omega⟩
        obtain ⟨-, w4, ⟨s4, f4, k4, h4'⟩, g4⟩ := up_loop (α := Unit) (d := d + 2) (mi := 209) (pc := 191) 11 (fun j _ => [some (.ref 27), some (.int (Int32.ofNat r)), some (.int (Int32.ofNat i)), some (.int (Int32.ofNat q)), some (.int (Int32.ofNat k)), some (.int (Int32.ofNat j)), none, none, none, none])
          (fun j _ w4 => gk_Sh rr w4 ∧ Fr [52, 53] [] w w4 ∧ (∀ a, a < 11 → (w_a w4 53).getD a 0 = Int32.ofNat (PM wd C G[r].2 i q (k + 1) a)) ∧ ∀ a, a < j → (w_a w4 52).getD a 0 = Int32.ofNat (PM wd C G[r].2 i q (k + 1) a))
          (fun j _ w4 hj hI => by
            obtain ⟨s4, f4, k4, h4'⟩ := hI
            have hl := (w_int s4 ly_52).2
            have hle : ¬ (10 : Int32) < Int32.ofNat j := fun p => absurd ((i_lt (a := 10) (by omega) (by omega)).mp p) (by omega)
            have o11 : gk_out (Int32.ofNat j) 11 = false := o_ok (by omega) (by omega)
            have ev : (w_a w4 53).getD (Int32.ofNat j).toNatClampNeg 0 = Int32.ofNat (PM wd C G[r].2 i q (k + 1) j) := by rw [i_nat (by omega)]; exact k4 j hj
            refine ⟨(), _, ⟨sh_as s4 ly_52 j (Int32.ofNat (PM wd C G[r].2 i q (k + 1) j)), Fr_trans f4 (Fr_sa (by simp) _), fun a ha => by rw [w_a_ne (by decide)]; exact k4 a ha, fun a ha => ?_⟩, fun x w' h => sg_209_191 (d := d) s4 _ _ _ _ _ ⟨fun p => absurd p hle, fun _ => ⟨o11, o11, by rw [ev, i_nat (by omega), i_s]; exact h⟩⟩⟩
            rw [w_a_same s4 ly_52, getD_set32 _ (by omega)]
            by_cases e : a = j
            · rw [if_pos e, e]
            · rw [if_neg e]; exact h4' a (by omega)) 11 0 () w3 (by omega) ⟨s3, f3, h3', fun a ha => by omega⟩
        refine ⟨(), w4, ⟨s4, f4, h4'⟩, fun x w' h => sg_209_60 (d := d) s2 _ _ _ _ ⟨RM_out R2 hr, fun p => absurd p hsz, fun _ => g3 x w' (sg_209_74 (d := d) s3 _ _ _ _ _ ⟨fun _ => g4 x w' (sg_209_191 (d := d) s4 _ _ _ _ _ ⟨fun _ => by rw [i_s]; exact h, fun p => absurd (by decide) p⟩), fun p => absurd (by decide) p⟩)⟩⟩) G[r].2.length 0 () w1 (by omega) ⟨s1, f1, h1'⟩
    have R2 : RM w2 4 28 G := RM_Fr hR f2 (by decide) (by simp)
    have eres : (w_a w2 52).getD (Int32.ofNat q).toNatClampNeg 0 = Int32.ofNat (wr wd C G[r] i q) := by
      rw [i_nat (by omega)]; exact h2' q (by omega)
    refine ⟨w2, gk_E_i rfl rfl (sg_209_0 (d := d) hS _ _ _ ⟨RM_out hR hr, fun _ => g1 _ _ (sg_209_26 (d := d) s1 _ _ _ _ ⟨fun _ => g2 _ _ (sg_209_60 (d := d) s2 _ _ _ _ ⟨RM_out R2 hr, fun _ => ⟨o_ok (by omega) (by omega), by rw [eres], rfl⟩, fun p => absurd ((RM_sz R2 hr (by omega)).mpr (Nat.le_refl _)) p⟩), fun p => absurd (by decide) p⟩), fun p => absurd (e1.mp p) h1⟩), s2, f2⟩
end MWY
