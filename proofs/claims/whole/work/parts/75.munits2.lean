/-! part 49: cleanUnits of the reference -/
section MV
variable {d : Nat} {rr : List gk_S} {w : gk_Wd} {G : List Rl} {T : Nat → Nat → Bool}
theorem unB_row (hO : RM w 8 31 G) {i : Nat} (hi : i < G.length) : (unB G[i] = true ↔ (w_a w 32).getD (Int32.ofNat i).toNatClampNeg 0 = 1 ∧ ¬ f_163 ((w_a w 33).getD (10 * Int32.ofNat i).toNatClampNeg 0) = 0) := by
  have hok := RM_ok hO hi
  have h10 := hok.2.1
  have h60 := RM_60 hO
  have e1 : (w_a w 32).getD (Int32.ofNat i).toNatClampNeg 0 = 1 ↔ G[i].2.length = 1 := by
    rw [RM_size hO hi]; exact i_eq (b := 1) (by omega) (by omega)
  rw [e1]
  constructor
  · intro h
    have hl := (of_decide_eq_true h).1
    have h0 : 0 < G[i].2.length := by omega
    have hs := hok.2.2 _ (List.getElem_mem h0)
    refine ⟨hl, ?_⟩
    have es := RM_sym hO hi h0
    rw [ix_n (by omega)] at es
    rw [show (10 : Int32) * Int32.ofNat i = Int32.ofNat (10 * i) from by rw [show (10 : Int32) = Int32.ofNat 10 from rfl, i_mul], i_nat (by omega), show 10 * i = 10 * i + 0 from rfl, es, f_163_n (by omega)]
    have := (unB_at hl).mp h
    omega
  · rintro ⟨hl, h⟩
    have h0 : 0 < G[i].2.length := by omega
    have hs := hok.2.2 _ (List.getElem_mem h0)
    have es := RM_sym hO hi h0
    rw [ix_n (by omega)] at es
    rw [show (10 : Int32) * Int32.ofNat i = Int32.ofNat (10 * i) from by rw [show (10 : Int32) = Int32.ofNat 10 from rfl, i_mul], i_nat (by omega), show 10 * i = 10 * i + 0 from rfl, es, f_163_n (by omega)] at h
    exact (unB_at hl).mpr (by omega)
/-- one rule given to one variable -/
theorem E177_s (hS : gk_Sh rr w) (hO : RM w 8 31 G) (hL : LM w T) {x i : Nat} (hx : x < 16) (hi : i < G.length) {p : Bool × List Rl} (hM : MA w p) : ∃ w1, gk_Sh rr w1 ∧ Fr [28, 29, 30, 34] [(26, 4), (26, 12), (26, 14)] w w1 ∧ MA w1 (if unB G[i] = false ∧ T x G[i].1 = true then addA p (some (x, G[i].2)) else p) ∧ Go (d + 3) 177 25 [some (.ref 27), some (.int (Int32.ofNat x)), some (.int (Int32.ofNat i)), none] w 25 [some (.ref 27), some (.int (Int32.ofNat x)), some (.int (Int32.ofNat (i + 1))), none] w1 := by
  have hok := RM_ok hO hi
  have h60 := RM_60 hO
  have hle : ¬ w_i w 26 8 ≤ Int32.ofNat i := fun q => absurd ((RM_le hO (by omega)).mp q) (by omega)
  have el : (w_a w 31).getD (Int32.ofNat i).toNatClampNeg 0 = Int32.ofNat G[i].1 := RM_left hO hi
  have o1 : gk_out (16 * Int32.ofNat x + (w_a w 31).getD (Int32.ofNat i).toNatClampNeg 0) 256 = false := by rw [el]; exact ix16_o hx hok.1
  have hT : (w_a w 40).getD (16 * Int32.ofNat x + (w_a w 31).getD (Int32.ofNat i).toNatClampNeg 0).toNatClampNeg 0 = 0 ↔ T x G[i].1 = false := by rw [el]; exact LM_0 hL hx hok.1
  have hu := unB_row hO hi
  have o10 : gk_out (10 * Int32.ofNat i) 640 = false := by
    rw [show (10 : Int32) * Int32.ofNat i = Int32.ofNat (10 * i) from by rw [show (10 : Int32) = Int32.ofNat 10 from rfl, i_mul]]
    exact o_ok (by omega) (by omega)
  by_cases hc : unB G[i] = false ∧ T x G[i].1 = true
  · rw [if_pos hc]
    obtain ⟨w1, e1, s1, f1, G1⟩ := E171_0 (d := d + 1) hS hO hi
    obtain ⟨w2, v, e2, s2, f2, M2, -⟩ := E149 (d := d) s1 (MA_Fr hM f1 (by decide) (by decide)) G1 hx
    have em : mkR x G[i].2 = some (x, G[i].2) := by unfold mkR; rw [if_pos hok.2.1]
    rw [em] at M2
    have n0 : ¬ (w_a w 40).getD (16 * Int32.ofNat x + (w_a w 31).getD (Int32.ofNat i).toNatClampNeg 0).toNatClampNeg 0 = 0 := by rw [hT, hc.2]; decide
    refine ⟨w2, s2, Fr_trans (Fr_mono f1 (by simp) (by simp)) (Fr_mono f2 (by simp) (by simp)), M2, fun r w' h => ?_⟩
    have hcont : gk_W none (d + 3) 177 25 [some (.ref 27), some (.int (Int32.ofNat x)), some (.int (Int32.ofNat i + 1)), none] [] w2 r w' := by rw [i_s]; exact h
    refine sg_177_25 (d := d + 1) hS _ _ ⟨fun q => absurd q hle, fun _ => ⟨RM_out hO hi, fun q => ⟨RM_out hO hi, o1, fun _ => ⟨1, w1, e1, s1, v, w2, e2, s2, hcont⟩, fun q => absurd q n0⟩, fun q => ⟨o10, fun q2 => ⟨RM_out hO hi, o1, fun _ => ⟨1, w1, e1, s1, v, w2, e2, s2, hcont⟩, fun q => absurd q n0⟩, fun q2 => ?_⟩⟩⟩
    have := hu.mpr ⟨q, q2⟩
    rw [hc.1] at this; cases this
  · rw [if_neg hc]
    refine ⟨w, hS, Fr_refl, hM, fun r w' h => ?_⟩
    have hcont : gk_W none (d + 3) 177 25 [some (.ref 27), some (.int (Int32.ofNat x)), some (.int (Int32.ofNat i + 1)), none] [] w r w' := by rw [i_s]; exact h
    refine sg_177_25 (d := d + 1) hS _ _ ⟨fun q => absurd q hle, fun _ => ⟨RM_out hO hi, fun q => ⟨RM_out hO hi, o1, fun q2 => ?_, fun _ => hcont⟩, fun q => ⟨o10, fun q2 => ⟨RM_out hO hi, o1, fun q3 => ?_, fun _ => hcont⟩, fun _ => hcont⟩⟩⟩
    · have h1 : unB G[i] = false := by
        rcases hb : unB G[i] with _ | _
        · rfl
        · exact absurd (hu.mp hb).1 q
      rw [hT] at q2
      exact absurd ⟨h1, by simpa using q2⟩ hc
    · have h1 : unB G[i] = false := by
        rcases hb : unB G[i] with _ | _
        · rfl
        · exact absurd q2 (hu.mp hb).2
      rw [hT] at q3
      exact absurd ⟨h1, by simpa using q3⟩ hc
theorem E177_i (hS : gk_Sh rr w) (hO : RM w 8 31 G) (hL : LM w T) {x : Nat} (hx : x < 16) {p : Bool × List Rl} (hM : MA w p) (hP : PI (cP T G) (fun q => q ∈ G ∨ ∃ g ∈ G, unB g = false ∧ q.1 < x ∧ T q.1 g.1 = true ∧ q.2 = g.2) p) : ∃ (p1 : Bool × List Rl) (w1 : gk_Wd), (gk_Sh rr w1 ∧ Fr [28, 29, 30, 34] [(26, 4), (26, 12), (26, 14)] w w1 ∧ MA w1 p1 ∧ PI (cP T G) (fun q => q ∈ G ∨ ∃ g ∈ G, unB g = false ∧ q.1 < x + 1 ∧ T q.1 g.1 = true ∧ q.2 = g.2) p1) ∧ Go (d + 3) 177 25 [some (.ref 27), some (.int (Int32.ofNat x)), some (.int (Int32.ofNat 0)), none] w 10 [some (.ref 27), some (.int (Int32.ofNat (x + 1))), none, none] w1 := by
  have h60 := RM_60 hO
  obtain ⟨p1, w1, ⟨s1, f1, M1, P1⟩, g1⟩ := up_loop (d := d + 3) (mi := 177) (pc := 25) G.length (fun k (_ : Bool × List Rl) => [some (.ref 27), some (.int (Int32.ofNat x)), some (.int (Int32.ofNat k)), none])
    (fun k p1 w1 => gk_Sh rr w1 ∧ Fr [28, 29, 30, 34] [(26, 4), (26, 12), (26, 14)] w w1 ∧ MA w1 p1 ∧ PI (cP T G) (fun q => (q ∈ G ∨ ∃ g ∈ G, unB g = false ∧ q.1 < x ∧ T q.1 g.1 = true ∧ q.2 = g.2) ∨ ∃ (j : Nat) (hj : j < G.length), j < k ∧ unB G[j] = false ∧ q.1 = x ∧ T x G[j].1 = true ∧ q.2 = G[j].2) p1)
    (fun k p1 w1 hk hI => by
      obtain ⟨s1, f1, M1, P1⟩ := hI
      obtain ⟨w2, s2, f2, M2, g2⟩ := E177_s (d := d) s1 (RM_Fr hO f1 (by decide) (by decide)) (LM_congr hL (Fr_a f1 (by decide))) hx hk M1
      refine ⟨_, w2, ⟨s2, Fr_trans f1 f2, M2, ?_⟩, g2⟩
      by_cases hc : unB G[k] = false ∧ T x G[k].1 = true
      · rw [if_pos hc]
        refine PI_mono (PI_add M1.2.1 P1 (q := (x, G[k].2)) (Or.inr ⟨G[k], List.getElem_mem hk, hc.1, hx, hc.2, rfl⟩)) fun q hq => ?_
        rcases hq with hq | ⟨j, hj, e0, e1, e2, e3, e4⟩
        · exact Or.inl (Or.inl hq)
        · by_cases hjk : j = k
          · subst hjk; exact Or.inr (Prod.ext e2 e4)
          · exact Or.inl (Or.inr ⟨j, hj, by omega, e1, e2, e3, e4⟩)
      · rw [if_neg hc]
        refine PI_mono P1 fun q hq => ?_
        rcases hq with hq | ⟨j, hj, e0, e1, e2, e3, e4⟩
        · exact Or.inl hq
        · by_cases hjk : j = k
          · subst hjk; exact absurd ⟨e1, e3⟩ hc
          · exact Or.inr ⟨j, hj, by omega, e1, e2, e3, e4⟩) G.length 0 p w (by omega) ⟨hS, Fr_refl, hM, PI_mono hP fun q hq => by
      rcases hq with hq | ⟨j, hj, e0, _⟩
      · exact hq
      · omega⟩
  refine ⟨p1, w1, ⟨s1, f1, M1, PI_mono P1 fun q hq => ?_⟩, Go_trans g1 fun r w' h => sg_177_25 (d := d + 1) s1 _ _ ⟨fun _ => by rw [i_s]; exact h, fun q => absurd ((RM_le (RM_Fr hO f1 (by decide) (by decide)) (by omega)).mpr (Nat.le_refl _)) q⟩⟩
  rcases hq with hq | ⟨g, hg, e1, e2, e3, e4⟩
  · exact Or.inl (Or.inl hq)
  · by_cases hqx : q.1 = x
    · obtain ⟨j, hj, rfl⟩ := List.mem_iff_getElem.mp hg
      exact Or.inr ⟨j, hj, hj, e1, hqx, by rw [← hqx]; exact e3, e4⟩
    · exact Or.inl (Or.inr ⟨g, hg, e1, by omega, e3, e4⟩)
theorem E177_o : ∀ (m x : Nat) (w : gk_Wd) (p : Bool × List Rl), gk_Sh rr w → RM w 8 31 G → LM w T → MA w p → PI (cP T G) (fun q => q ∈ G ∨ ∃ g ∈ G, unB g = false ∧ q.1 < x ∧ T q.1 g.1 = true ∧ q.2 = g.2) p → x + m = 16 →
    ∃ (p1 : Bool × List Rl) (w1 : gk_Wd), (gk_Sh rr w1 ∧ Fr [28, 29, 30, 34] [(26, 4), (26, 12), (26, 14)] w w1 ∧ MA w1 p1 ∧ PI (cP T G) (cP T G) p1) ∧ Go (d + 3) 177 10 [some (.ref 27), some (.int (Int32.ofNat x)), none, none] w 122 [some (.ref 27), some (.int (w_i w1 26 4 - 1)), none, none] w1
  | 0, x, w, p, hS, hO, hL, hM, hP, hx => by
    obtain rfl : x = 16 := by omega
    exact ⟨p, w, ⟨hS, Fr_refl, hM, hP⟩, fun r w' h => sg_177_10 (d := d + 1) hS _ ⟨fun _ => h, fun q => absurd y16 q⟩⟩
  | m + 1, x, w, p, hS, hO, hL, hM, hP, hx => by
    obtain ⟨ob, H⟩ := p
    cases ob with
    | true =>
      have h14 : ¬ w_i w 26 14 = 0 := by
        rw [hM.2.2]; exact (by decide : ¬ bI true = 0)
      exact ⟨(true, H), w, ⟨hS, Fr_refl, hM, fun q => (by cases q), fun _ => hP.2 rfl⟩, fun r w' h => sg_177_10 (d := d + 1) hS _ ⟨fun _ => h, fun _ => ⟨fun _ => h, fun q => absurd q h14⟩⟩⟩
    | false =>
      have h14 : w_i w 26 14 = 0 := hM.2.2
      obtain ⟨p1, w1, ⟨s1, f1, M1, P1⟩, g1⟩ := E177_i (d := d) hS hO hL (x := x) (by omega) hM hP
      obtain ⟨p2, w2, ⟨s2, f2, M2, P2⟩, g2⟩ := E177_o m (x + 1) w1 p1 s1 (RM_Fr hO f1 (by decide) (by decide)) (LM_congr hL (Fr_a f1 (by decide))) M1 P1 (by omega)
      exact ⟨p2, w2, ⟨s2, Fr_trans f1 f2, M2, P2⟩, fun r w' h => sg_177_10 (d := d + 1) hS _ ⟨fun q => absurd q (n16 (by omega)), fun _ => ⟨fun q => absurd h14 q, fun _ => g1 r w' (g2 r w' h)⟩⟩⟩
theorem E177_f (hS : gk_Sh rr w) {H : List Rl} (hR : RM w 4 28 H) : ∃ w', gk_Sh rr w' ∧ Fr [28, 29, 30] [(26, 4)] w w' ∧ RM w' 4 28 (H.filter nuB) ∧ gk_W none (d + 3) 177 122 [some (.ref 27), some (.int (w_i w 26 4 - 1)), none, none] [] w (.inl none) w' := by
  obtain ⟨w1, s1, f1, R1, g1⟩ := dn_RM (d := d + 3) (mi := 177) (pc := 122) nuB (fun x => [some (.ref 27), some (.int x), none, none]) (d + 1) (fun _ => True) (fun _ _ _ _ => trivial) (fun k w H hk hS hR _ r w' h1 h2 => by
    have h60 := RM_60 hR
    have hu := f_179_M hR hk
    refine sg_177_122 (d := d + 1) hS _ ⟨fun q => absurd q (i_neg (by omega)), fun _ => ⟨RM_out hR hk, f_179_o hR hk, fun q => ?_, fun q => ?_⟩⟩
    · rw [hu] at q
      rw [i_m1]; exact h1 (by simp [nuB, q])
    · rw [hu] at q
      rw [i_m1]; exact h2 (by simp [nuB]; simpa using q)) H.length w H hS hR trivial (Nat.le_refl _)
  rw [dfl_all] at R1
  rw [hR.1]
  exact ⟨w1, s1, f1, R1, g1 _ _ (sg_177_122 (d := d + 1) s1 _ ⟨fun _ => ⟨rfl, rfl⟩, fun q => absurd i_z1 q⟩)⟩
/-- cleanUnits -/
theorem E177 (hS : gk_Sh rr w) (hR : RM w 4 28 G) (hs : srt G) (ho : w_i w 26 14 = 0) : ∃ (o : Option (List Rl)) (w' : gk_Wd), plaR G o ∧ gk_E (d + 3) 177 [.ref 27] w (.inl none) w' ∧ gk_Sh rr w' ∧ Fr [28, 29, 30, 31, 32, 33, 34, 40] [(26, 4), (26, 8), (26, 12), (26, 14)] w w' ∧ (∀ K, o = some K → MA w' (false, K)) ∧ (o = none → ∃ K, MA w' (true, K)) := by
  obtain ⟨w1, e1, s1, f1, O1⟩ := E148 (d := d + 2) hS hR
  obtain ⟨T, w2, hT, e2, s2, f2, L2⟩ := E178 (d := d) s1 (RM_Fr hR f1 (by decide) (by decide))
  have R2 : RM w2 4 28 G := RM_Fr (RM_Fr hR f1 (by decide) (by decide)) f2 (by decide) (by simp)
  have O2 : RM w2 8 31 G := RM_Fr O1 f2 (by decide) (by simp)
  have h14 : w_i w2 26 14 = 0 := by rw [Fr_i f2 (by simp), Fr_i f1 (by decide), ho]
  obtain ⟨p, w3, ⟨s3, f3, M3, P3⟩, g3⟩ := E177_o (d := d) 16 0 w2 (false, G) s2 O2 L2 ⟨R2, hs, h14⟩ ⟨fun _ => ⟨fun r hr => Or.inl hr, fun q hq => by
    rcases hq with hq | ⟨g, hg, _, h0, _⟩
    · exact hq
    · omega⟩, fun q => by cases q⟩ (by omega)
  obtain ⟨w4, s4, f4, R4, g4⟩ := E177_f (d := d) s3 M3.1
  have hE : gk_E (d + 3) 177 [.ref 27] w (.inl none) w4 := gk_E_i rfl rfl (sg_177_0 (d := d + 1) hS ⟨w1, e1, s1, w2, e2, s2, g3 _ _ g4⟩)
  have hF : Fr [28, 29, 30, 31, 32, 33, 34, 40] [(26, 4), (26, 8), (26, 12), (26, 14)] w w4 := Fr_trans (Fr_mono f1 (by simp) (by simp)) (Fr_trans (Fr_mono f2 (by simp) (by simp)) (Fr_trans (Fr_mono f3 (by simp) (by simp)) (Fr_mono f4 (by simp) (by simp))))
  obtain ⟨ob, H⟩ := p
  have M4 : MA w4 (ob, H.filter nuB) := ⟨R4, srt_filter M3.2.1 _, by rw [Fr_i f4 (by decide)]; exact M3.2.2⟩
  cases ob with
  | false =>
    obtain ⟨q1, q2⟩ := P3.1 rfl
    exact ⟨some (H.filter nuB), w4, ⟨T, hT, H, ⟨M3.2.1, fun r => ⟨q1 r, q2 r⟩⟩, RM_60 M3.1, rfl⟩, hE, s4, hF, fun K e => (by cases e; exact M4), fun e => by cases e⟩
  | true => exact ⟨none, w4, ⟨T, hT, P3.2 rfl⟩, hE, s4, hF, fun K e => (by cases e), fun _ => ⟨_, M4⟩⟩
end MV
