/-! part 72: ways: the rest of the class, and the reference -/
def wsN (wd : List Nat) (G : List Rl) : Nat := if wd.length = 0 then 0 else Cs wd G 0 0 wd.length
theorem PM_D {wd : List Nat} {C : CT} {s : List Nat} {i q k j : Nat} : PM wd C s i q k j ≤ 1000000 := PM_le _ _ _ _ _ _ _
section W2
variable {d : Nat} {rr : List gk_S} {w : gk_Wd} {wd : List Nat} {G : List Rl}
/-- countBetween -/
theorem E130 (hS : gk_Sh rr w) (hR : RS w 3 G) (hW : WC w wd) (hG : ∀ r ∈ G, wOk r) {i q : Nat} (hiq : i < q) (hq : q ≤ wd.length) {D : Nat → Nat → Prop} (hT : TC w 22 (Cs wd G) D) (hD : ∀ a b, i ≤ a → a < b → b ≤ q → ¬ (a = i ∧ b = q) → D a b) : ∃ w', gk_E (d + 4) 130 [.ref 20, .ref 4, .int (Int32.ofNat i), .int (Int32.ofNat q)] w (.inl none) w' ∧ gk_Sh rr w' ∧ Fr [22, 23] [] w w' ∧ TC w' 22 (Cs wd G) (fun a b => D a b ∨ (a = i ∧ b = q)) := by
  have hL := hW.2.1
  have h60 := RS_60 hR
  obtain ⟨-, w1, ⟨s1, f1, z1, t1⟩, g1⟩ := up_loop (α := Unit) (d := d + 4) (mi := 130) (pc := 3) 16 (fun k _ => [some (.ref 20), some (.ref (3 + 1)), some (.int (Int32.ofNat i)), some (.int (Int32.ofNat q)), some (.int (Int32.ofNat k)), none])
    (fun k _ w1 => gk_Sh rr w1 ∧ Fr [22, 23] [] w w1 ∧ (∀ v, v < k → (w_a w1 22).getD (121 * v + 11 * i + q) 0 = 0) ∧ TC w1 22 (Cs wd G) (fun a b => D a b ∧ ¬ (a = i ∧ b = q)))
    (fun k _ w1 hk hI => by
      obtain ⟨s1, f1, z1, t1⟩ := hI
      have hl := (w_int s1 ly_22).2
      refine ⟨(), _, ⟨sh_as s1 ly_22 (121 * k + 11 * i + q) 0, Fr_trans f1 (Fr_sa (by simp) _), fun v hv => ?_, fun v a b hv hab hb hDab => ?_⟩, fun r w' h => sg_130_3 (d := d + 3) s1 rs_3 _ _ _ ⟨fun p => absurd p (n16 hk), fun _ => ⟨by rw [ix131]; exact o_ok (by omega) (by omega), by rw [ix131, i_nat (by omega), i_s]; exact h⟩⟩⟩
      · rw [w_a_same s1 ly_22, getD_set32 _ (by omega)]
        by_cases e : v = k
        · rw [if_pos (by omega)]
        · rw [if_neg (by omega)]; exact z1 v (by omega)
      · rw [w_a_same s1 ly_22, getD_set32 _ (by omega), if_neg (fun e => hDab.2 (by omega))]
        exact t1 v a b hv hab hb hDab) 16 0 () w (by omega) ⟨hS, Fr_refl, fun v hv => by omega, fun v a b hv hab hb hDab => hT v a b hv hab hb hDab.1⟩
  obtain ⟨-, w2, ⟨s2, f2, z2, t2⟩, g2⟩ := up_loop (α := Unit) (d := d + 4) (mi := 130) (pc := 32) G.length (fun k _ => [some (.ref 20), some (.ref (3 + 1)), some (.int (Int32.ofNat i)), some (.int (Int32.ofNat q)), some (.int (Int32.ofNat k)), none])
    (fun k _ w2 => gk_Sh rr w2 ∧ Fr [22, 23] [] w w2 ∧ (∀ v, v < 16 → (w_a w2 22).getD (121 * v + 11 * i + q) 0 = Int32.ofNat ((G.take k).foldl (wf wd (Cs wd G) v i q) 0)) ∧ TC w2 22 (Cs wd G) (fun a b => D a b ∧ ¬ (a = i ∧ b = q)))
    (fun k _ w2 hk hI => by
      obtain ⟨s2, f2, z2, t2⟩ := hI
      have R2 : RS w2 3 G := RS_Fr hR f2 (by decide) (by simp)
      have W2 := WC_Fr hW f2 (by decide) (by simp)
      have ef := RS_f23 R2 hk
      have hok := RS_ok R2 hk
      have h16 := hok.1
      have hle : ¬ f_13 w2 3 ≤ Int32.ofNat k := fun p => absurd ((RS_le R2 (by omega)).mp p) (by omega)
      have ei : f_131 (f_25 (f_23 w2 3 (Int32.ofNat k))) (Int32.ofNat i) (Int32.ofNat q) = Int32.ofNat (121 * G[k].1 + 11 * i + q) := by rw [ef, f_25_pk hok, ix131]
      have oi : gk_out (f_131 (f_25 (f_23 w2 3 (Int32.ofNat k))) (Int32.ofNat i) (Int32.ofNat q)) 1936 = false := by rw [ei]; exact o_ok (by omega) (by omega)
      obtain ⟨w3, e3, s3, f3⟩ := E132 (d := d) (C := Cs wd G) s2 W2 hok (hG _ (List.getElem_mem hk)) hiq hq (fun v a b hv hab hb hDab => t2 v a b hv hab hb ⟨hD a b hDab.1 hab hDab.2.1 hDab.2.2, hDab.2.2⟩) (fun v a b hv ha hab hb => Cs_le hG hab (by omega))
      have e22 : w_a w3 22 = w_a w2 22 := Fr_a f3 (by decide)
      have hl := (w_int s3 ly_22).2
      have hcl : (G.take k).foldl (wf wd (Cs wd G) G[k].1 i q) 0 ≤ 1000000 := wf_le _ _ (by omega)
      have hwl : wr wd (Cs wd G) G[k] i q ≤ 1000000 := PM_D
      have et : ∀ v, (G.take (k + 1)).foldl (wf wd (Cs wd G) v i q) 0 = wf wd (Cs wd G) v i q ((G.take k).foldl (wf wd (Cs wd G) v i q) 0) G[k] := fun v => by
        rw [List.take_succ_eq_append_getElem hk, List.foldl_append]; rfl
      have ev : (if (((w_a w2 22).getD (f_131 (f_25 (f_23 w2 3 (Int32.ofNat k))) (Int32.ofNat i) (Int32.ofNat q)).toNatClampNeg 0).toInt64) + Int64.ofNat (wr wd (Cs wd G) G[k] i q) < 1000000 then (((w_a w2 22).getD (f_131 (f_25 (f_23 w2 3 (Int32.ofNat k))) (Int32.ofNat i) (Int32.ofNat q)).toNatClampNeg 0).toInt64) + Int64.ofNat (wr wd (Cs wd G) G[k] i q) else 1000000).toInt32 = Int32.ofNat (cap ((G.take k).foldl (wf wd (Cs wd G) G[k].1 i q) 0 + wr wd (Cs wd G) G[k] i q)) := by
        rw [ei, i_nat (by omega), z2 _ h16, i64_of (by omega), ← Int64.ofNat_add, capL (by omega), Int64.toInt32_ofNat']
      refine ⟨(), _, ⟨sh_as s3 ly_22 (121 * G[k].1 + 11 * i + q) _, Fr_trans f2 (Fr_trans (Fr_mono f3 (by simp) (by simp)) (Fr_sa (by simp) _)), fun v hv => ?_, fun v a b hv hab hb hDab => ?_⟩, fun r w' h => sg_130_32 (d := d + 3) s2 rs_3 _ _ _ ⟨fun p => absurd p hle, fun _ => ⟨RS_out R2 hk, oi, RS_out R2 hk, _, w3, by rw [ef]; exact e3, s3, oi, by rw [ev, ei, i_nat (by omega), i_s]; exact h⟩⟩⟩
      · rw [w_a_same s3 ly_22, getD_set32 _ (by omega), et]
        unfold wf
        by_cases e : G[k].1 = v
        · rw [if_pos (by omega), if_pos e, ← e]
        · rw [if_neg (by omega), if_neg e, e22]; exact z2 v hv
      · rw [w_a_same s3 ly_22, getD_set32 _ (by omega), if_neg (fun e => hDab.2 (by omega)), e22]
        exact t2 v a b hv hab hb hDab) G.length 0 () w1 (by omega) ⟨s1, f1, fun v hv => by rw [z1 v hv]; rfl, t1⟩
  have R2 : RS w2 3 G := RS_Fr hR f2 (by decide) (by simp)
  rw [List.take_of_length_le (Nat.le_refl _)] at z2
  refine ⟨w2, gk_E_i rfl rfl (sg_130_0 (d := d + 3) hS rs_3 _ _ (g1 _ _ (sg_130_3 (d := d + 3) s1 rs_3 _ _ _ ⟨fun _ => g2 _ _ (sg_130_32 (d := d + 3) s2 rs_3 _ _ _ ⟨fun _ => ⟨rfl, rfl⟩, fun p => absurd ((RS_le R2 (by omega)).mpr (Nat.le_refl _)) p⟩), fun p => absurd y16 p⟩))), s2, f2, fun v a b hv hab hb hDab => ?_⟩
  by_cases e : a = i ∧ b = q
  · rw [e.1, e.2, z2 v hv, Cs_eq hG hiq (by omega)]
  · rcases hDab with h | h
    · exact t2 v a b hv hab hb ⟨h, e⟩
    · exact absurd h e
/-- countWays -/
theorem E129 (hS : gk_Sh rr w) (hR : RS w 3 G) (hW : WC w wd) (hG : ∀ r ∈ G, wOk r) : ∃ w', gk_E (d + 5) 129 [.ref 20, .ref 4] w (.inl (some (.int (Int32.ofNat (wsN wd G))))) w' ∧ gk_Sh rr w' ∧ Fr [22, 23] [] w w' := by
  have hL := hW.2.1
  have e0 : w_i w 19 1 = 0 ↔ wd.length = 0 := by rw [hW.1]; exact i_eq (b := 0) (by omega) (by omega)
  unfold wsN
  by_cases h0 : wd.length = 0
  · rw [if_pos h0]
    exact ⟨w, gk_E_i rfl rfl (sg_129_0 (d := d + 4) hS rs_3 ⟨fun p => absurd (e0.mpr h0) p, fun _ => ⟨rfl, rfl⟩⟩), hS, Fr_refl⟩
  · rw [if_neg h0]
    obtain ⟨-, w1, ⟨hk1, s1, f1, t1⟩, g1⟩ := dn_loop (α := Unit) (d := d + 5) (mi := 129) (pc := 16) (fun k _ => [some (.ref 20), some (.ref (3 + 1)), some (.int (Int32.ofNat k - 1)), none])
      (fun k _ w1 => k ≤ wd.length ∧ gk_Sh rr w1 ∧ Fr [22, 23] [] w w1 ∧ TC w1 22 (Cs wd G) (fun a b => k ≤ a ∧ b ≤ wd.length))
      (fun k _ w1 hI => by
        obtain ⟨hk, s1, f1, t1⟩ := hI
        rw [i_down]
        obtain ⟨-, w2, ⟨hj2, s2, f2, t2⟩, g2⟩ := up_loop (α := Unit) (d := d + 5) (mi := 129) (pc := 24) (wd.length + 1) (fun j _ => [some (.ref 20), some (.ref (3 + 1)), some (.int (Int32.ofNat k)), some (.int (Int32.ofNat j))])
          (fun j _ w2 => k < j ∧ gk_Sh rr w2 ∧ Fr [22, 23] [] w w2 ∧ TC w2 22 (Cs wd G) (fun a b => (k + 1 ≤ a ∧ b ≤ wd.length) ∨ (a = k ∧ b < j)))
          (fun j _ w2 hj hI => by
            obtain ⟨hkj, s2, f2, t2⟩ := hI
            have R2 : RS w2 3 G := RS_Fr hR f2 (by decide) (by simp)
            have W2 := WC_Fr hW f2 (by decide) (by simp)
            have hle : ¬ w_i w2 19 1 < Int32.ofNat j := by
              rw [W2.1]; intro p
              exact absurd ((i_lt (by omega) (by omega)).mp p) (by omega)
            obtain ⟨w3, e3, s3, f3, t3⟩ := E130 (d := d) s2 R2 W2 hG hkj (show j ≤ wd.length by omega) t2 (fun a b ha hab hb hne => by
              by_cases e : a = k
              · right; refine ⟨e, ?_⟩
                by_cases e2 : b = j
                · exact absurd ⟨e, e2⟩ hne
                · omega
              · left; omega)
            refine ⟨(), w3, ⟨by omega, s3, Fr_trans f2 f3, fun v a b hv hab hb hDab => t3 v a b hv hab hb ?_⟩, fun r w' h => sg_129_24 (d := d + 4) s2 rs_3 _ _ ⟨fun p => absurd p hle, fun _ => ⟨w3, e3, s3, by rw [i_s]; exact h⟩⟩⟩
            rcases hDab with h | ⟨h1, h2⟩
            · exact Or.inl (Or.inl h)
            · by_cases e : b = j
              · exact Or.inr ⟨h1, e⟩
              · exact Or.inl (Or.inr ⟨h1, by omega⟩)) (wd.length - k) (k + 1) () w1 (by omega) ⟨by omega, s1, f1, fun v a b hv hab hb hDab => t1 v a b hv hab hb (by
            rcases hDab with h | ⟨h1, h2⟩
            · exact h
            · omega)⟩
        have W2 := WC_Fr hW f2 (by decide) (by simp)
        refine ⟨(), w2, ⟨by omega, s2, f2, fun v a b hv hab hb hDab => t2 v a b hv hab hb ?_⟩, fun r w' h => sg_129_16 (d := d + 4) s1 rs_3 _ ⟨fun p => absurd p (i_neg (by omega)), fun _ => ?_⟩⟩
        · by_cases e : a = k
          · right; omega
          · left; omega
        · rw [i_s]
          refine g2 r w' (sg_129_24 (d := d + 4) s2 rs_3 _ _ ⟨fun _ => by rw [i_m1]; exact h, fun p => absurd ?_ p⟩)
          rw [W2.1]; exact (i_lt (by omega) (by omega)).mpr (by omega)) wd.length () w ⟨Nat.le_refl _, hS, Fr_refl, fun v a b hv hab hb hDab => by omega⟩
    have W1 := WC_Fr hW f1 (by decide) (by simp)
    have ei : f_131 0 0 (w_i w1 19 1) = Int32.ofNat wd.length := by
      rw [W1.1]
      have := ix131 0 0 wd.length
      simpa using this
    refine ⟨w1, gk_E_i rfl rfl (sg_129_0 (d := d + 4) hS rs_3 ⟨fun _ => ?_, fun p => absurd (e0.mp p) h0⟩), s1, f1⟩
    rw [hW.1]
    refine g1 _ _ (sg_129_16 (d := d + 4) s1 rs_3 _ ⟨fun _ => ⟨by rw [ei]; exact o_ok (by omega) (by omega), ?_, rfl⟩, fun p => absurd i_z1 p⟩)
    rw [ei, i_nat (by omega)]
    have := t1 0 0 wd.length (by omega) (by omega) hL ⟨by omega, Nat.le_refl _⟩
    rw [show 121 * 0 + 11 * 0 + wd.length = wd.length by omega] at this
    rw [this]
end W2
