/-! part 39: the reference: what may vanish -/
section MN
variable {d : Nat} {rr : List gk_S} {w : gk_Wd} {G : List Rl}
theorem E170_l (hS : gk_Sh rr w) (hR : RM w 4 28 G) {S : Nat → Bool} (hB : BA w 38 S) {i : Nat} (hi : i < G.length) : ∀ (m k : Nat) (b : Bool), k + m = G[i].2.length → gk_W none (d + 1) 170 5 [some (.ref 27), some (.int (Int32.ofNat i)), none, some (.int (bI b)), some (.int (Int32.ofNat k))] [] w (.inl (some (.int (bI (b && (G[i].2.drop k).all fun s => if s < 16 then S s else false))))) w
  | 0, k, b, hk => by
    have h10 := (RM_ok hR hi).2.1
    refine sg_170_5 hS _ _ _ ⟨RM_out hR hi, fun _ => ⟨bI_b b, ?_, rfl⟩, fun q => absurd ((RM_sz hR hi (by omega)).mpr (by omega)) q⟩
    rw [List.drop_eq_nil_of_le (by omega)]; simp
  | m + 1, k, b, hk => by
    have h10 := (RM_ok hR hi).2.1
    have hkl : k < G[i].2.length := by omega
    have hs := (RM_ok hR hi).2.2 _ (List.getElem_mem hkl)
    have ea := RM_at hR hi hkl
    rw [List.drop_eq_getElem_cons hkl, List.all_cons, ← Bool.and_assoc]
    refine sg_170_5 hS _ _ _ ⟨RM_out hR hi, fun q => absurd ((RM_sz hR hi (by omega)).mp q) (by omega), fun _ => ⟨fun q1 => ?_, fun q1 => ⟨RM_io hR hi (by omega), fun q2 => ?_, fun q2 => ?_⟩⟩⟩
    · rw [i_s, bI_0.mp q1, Bool.false_and]
      exact E170_l hS hR hB hi m (k + 1) false (by omega)
    · rw [ea, f_163_n (by omega)] at q2
      rw [i_s, if_neg (show ¬ G[i].2[k] < 16 by omega), Bool.and_false]
      exact E170_l hS hR hB hi m (k + 1) false (by omega)
    · have hb : b = true := by
        cases b
        · exact absurd rfl q1
        · rfl
      rw [ea, f_163_n (by omega)] at q2
      have h16 : G[i].2[k] < 16 := by omega
      refine ⟨RM_io hR hi (by omega), by rw [ea]; exact o_ok h16 (by omega), fun q3 => ?_, fun q3 => ?_⟩
      · rw [BA_at hB ea h16] at q3
        rw [i_s, if_pos h16, q3, Bool.and_false]
        exact E170_l hS hR hB hi m (k + 1) false (by omega)
      · rw [BA_at hB ea h16] at q3
        have : S G[i].2[k] = true := by simpa using q3
        rw [i_s, hb, if_pos h16, this]
        exact E170_l hS hR hB hi m (k + 1) true (by omega)
/-- isNull(r, 0) -/
theorem E170 (hS : gk_Sh rr w) (hR : RM w 4 28 G) {S : Nat → Bool} (hB : BA w 38 S) {i : Nat} (hi : i < G.length) : gk_E (d + 1) 170 [.ref 27, .int (Int32.ofNat i), .int 0] w (.inl (some (.int (bI (fireB false S G[i]))))) w := gk_E_i rfl rfl (sg_170_0 hS _ _ (by
  have := E170_l (d := d) hS hR hB hi G[i].2.length 0 true (by omega)
  rw [List.drop_zero, Bool.true_and] at this
  exact this))
theorem E169_p : ∀ (n i : Nat) (w : gk_Wd) (S : Nat → Bool) (m : Bool), gk_Sh rr w → RM w 4 28 G → BA w 38 S → i + n = G.length → ∃ w1, gk_Sh rr w1 ∧ Fr [38] [] w w1 ∧ BA w1 38 ((G.drop i).foldl (mS false) (S, m)).1 ∧ ∀ (r : gk_Res) (w' : gk_Wd), gk_W none (d + 2) 169 23 [some (.ref 27), some (.int (bI ((G.drop i).foldl (mS false) (S, m)).2)), none] [] w1 r w' → gk_W none (d + 2) 169 31 [some (.ref 27), some (.int (bI m)), some (.int (Int32.ofNat i))] [] w r w'
  | 0, i, w, S, m, hS, hR, hB, hi => by
    have h60 := RM_60 hR
    obtain rfl : i = G.length := by omega
    rw [List.drop_eq_nil_of_le (Nat.le_refl _)]
    exact ⟨w, hS, Fr_refl, hB, fun r w' h => sg_169_31 (d := d + 1) hS _ _ ⟨fun _ => h, fun q => absurd ((RM_le hR (by omega)).mpr (Nat.le_refl _)) q⟩⟩
  | n + 1, i, w, S, m, hS, hR, hB, hi => by
    have h60 := RM_60 hR
    have hil : i < G.length := by omega
    have hl16 := (RM_ok hR hil).1
    have el := RM_left hR hil
    have hlo : gk_out ((w_a w 28).getD (Int32.ofNat i).toNatClampNeg 0) 16 = false := by rw [el]; exact o_ok hl16 (by omega)
    have hnle : ¬ w_i w 26 4 ≤ Int32.ofNat i := fun q => absurd ((RM_le hR (by omega)).mp q) (by omega)
    rw [List.drop_eq_getElem_cons hil, List.foldl_cons]
    by_cases h1 : S G[i].1 = true
    · have e : mS false (S, m) G[i] = (S, m) := by unfold mS; rw [if_pos h1]
      rw [e]
      obtain ⟨w1, s1, f1, B1, g1⟩ := E169_p n (i + 1) w S m hS hR hB (by omega)
      refine ⟨w1, s1, f1, B1, fun r w' h => sg_169_31 (d := d + 1) hS _ _ ⟨fun q => absurd q hnle, fun _ => ⟨RM_out hR hil, hlo, fun _ => by rw [i_s]; exact g1 r w' h, fun q => ?_⟩⟩⟩
      have := (BA_at hB el hl16).mp q
      rw [h1] at this; cases this
    · have hz := (BA_at hB el hl16).mpr (by simpa using h1)
      by_cases h2 : fireB false S G[i] = true
      · have e : mS false (S, m) G[i] = (usb S G[i].1, true) := by unfold mS; rw [if_neg h1, if_pos h2]
        rw [e]
        have hR1 : RM (w_sa w 38 ((w_a w 38).set G[i].1 1)) 4 28 G := RM_congr hR w_i_sa (w_a_ne (by decide)) (w_a_ne (by decide)) (w_a_ne (by decide))
        obtain ⟨w1, s1, f1, B1, g1⟩ := E169_p n (i + 1) _ _ true (sh_as hS ly_38 G[i].1 1) hR1 (BA_set hS ly_38 hB hl16) (by omega)
        refine ⟨w1, s1, Fr_trans (Fr_sa (by decide) _) f1, B1, fun r w' h => sg_169_31 (d := d + 1) hS _ _ ⟨fun q => absurd q hnle, fun _ => ⟨RM_out hR hil, hlo, fun q => absurd hz q, fun _ => ⟨_, E170 hS hR hB hil, fun _ => ⟨RM_out hR hil, hlo, ?_⟩, fun q => ?_⟩⟩⟩⟩
        · rw [el, i_nat (by omega), i_s]; exact g1 r w' h
        · rw [h2] at q; exact absurd q (by decide)
      · have e : mS false (S, m) G[i] = (S, m) := by unfold mS; rw [if_neg h1, if_neg h2]
        rw [e]
        obtain ⟨w1, s1, f1, B1, g1⟩ := E169_p n (i + 1) w S m hS hR hB (by omega)
        refine ⟨w1, s1, f1, B1, fun r w' h => sg_169_31 (d := d + 1) hS _ _ ⟨fun q => absurd q hnle, fun _ => ⟨RM_out hR hil, hlo, fun q => absurd hz q, fun _ => ⟨_, E170 hS hR hB hil, fun q => ?_, fun _ => by rw [i_s]; exact g1 r w' h⟩⟩⟩⟩
        exact absurd (bI_0.mpr (by simpa using h2)) q
theorem E169_z : ∀ (m k : Nat) (w : gk_Wd), gk_Sh rr w → k + m = 16 → (∀ v, v < k → (w_a w 38).getD v 0 = 0) → ∃ w1, gk_Sh rr w1 ∧ Fr [38] [] w w1 ∧ BA w1 38 (fun _ => false) ∧ ∀ (r : gk_Res) (w' : gk_Wd), gk_W none (d + 1) 169 23 [some (.ref 27), some (.int 1), none] [] w1 r w' → gk_W none (d + 1) 169 2 [some (.ref 27), some (.int (Int32.ofNat k)), none] [] w r w'
  | 0, k, w, hS, hk, hz => by
    obtain rfl : k = 16 := by omega
    exact ⟨w, hS, Fr_refl, fun v hv => hz v hv, fun r w' h => sg_169_2 hS _ ⟨fun _ => h, fun q => absurd (show (16 : Int32) ≤ Int32.ofNat 16 by decide) q⟩⟩
  | m + 1, k, w, hS, hk, hz => by
    have hl := (w_int hS ly_38).2
    obtain ⟨w1, s1, f1, B1, g1⟩ := E169_z m (k + 1) (w_sa w 38 ((w_a w 38).set k 0)) (sh_as hS ly_38 _ _) (by omega) (fun v hv => by
      rw [w_a_same hS ly_38, getD_set32 _ (by omega)]
      by_cases e : v = k
      · rw [if_pos e]
      · rw [if_neg e]; exact hz v (by omega))
    refine ⟨w1, s1, Fr_trans (Fr_sa (by decide) _) f1, B1, fun r w' h => sg_169_2 hS _ ⟨fun q => absurd ((i_le (a := 16) (by omega) (by omega)).mp q) (by omega), fun _ => ⟨o_ok (by omega) (by omega), ?_⟩⟩⟩
    rw [i_nat (by omega), i_s]; exact g1 r w' h
theorem E169_w : ∀ (n : Nat) (w : gk_Wd) (S : Nat → Bool), gk_Sh rr w → RM w 4 28 G → BA w 38 S → 16 - cnt 16 S ≤ n → (∀ T : Nat → Bool, clP false G T → ∀ v, S v = true → T v = true) → ∃ (w1 : gk_Wd) (S1 : Nat → Bool), gk_Sh rr w1 ∧ Fr [38] [] w w1 ∧ BA w1 38 S1 ∧ isP false G S1 ∧ gk_W none (d + 2) 169 23 [some (.ref 27), some (.int 1), none] [] w (.inl none) w1
  | n, w, S, hS, hR, hB, hn, hT => by
    obtain ⟨w1, s1, f1, B1, g1⟩ := E169_p (d := d) G.length 0 w S false hS hR hB (by omega)
    rw [List.drop_zero] at B1 g1
    obtain ⟨a1, a2, a3⟩ := mS_pass (lt := false) G S false hR.2.2.1
    have hT' : ∀ T : Nat → Bool, clP false G T → ∀ v, (G.foldl (mS false) (S, false)).1 v = true → T v = true := fun T h => mS_inv h G S false (fun _ h => h) (hT T h)
    have hstart : ∀ (r : gk_Res) (w' : gk_Wd), gk_W none (d + 2) 169 31 [some (.ref 27), some (.int (bI false)), some (.int (Int32.ofNat 0))] [] w r w' → gk_W none (d + 2) 169 23 [some (.ref 27), some (.int 1), none] [] w r w' := fun r w' h => sg_169_23 (d := d + 1) hS _ ⟨fun q => absurd q (by decide), fun _ => h⟩
    cases hq : (G.foldl (mS false) (S, false)).2 with
    | false =>
      obtain ⟨-, b2, b3⟩ := a2 hq
      rw [hq] at g1
      rw [b2] at B1
      exact ⟨w1, S, s1, f1, B1, ⟨b3, hT⟩, hstart _ _ (g1 _ _ (sg_169_23 (d := d + 1) s1 _ ⟨fun _ => ⟨rfl, rfl⟩, fun q => absurd rfl q⟩))⟩
    | true =>
      rcases a3 hq with h | h
      · cases h
      · have hlt := cnt_lt 16 (fun i _ => a1 i) h
        have hle := cnt_le 16 (G.foldl (mS false) (S, false)).1
        match n with
        | 0 => omega
        | n + 1 =>
          obtain ⟨w2, S2, s2, f2, B2, P2, g2⟩ := E169_w n w1 _ s1 (RM_congr hR (Fr_i f1 (by simp)) (Fr_a f1 (by decide)) (Fr_a f1 (by decide)) (Fr_a f1 (by decide))) B1 (by omega) hT'
          rw [hq] at g1
          exact ⟨w2, S2, s2, Fr_trans f1 f2, B2, P2, hstart _ _ (g1 _ _ g2)⟩
/-- findNullable -/
theorem E169 (hS : gk_Sh rr w) (hR : RM w 4 28 G) : ∃ (w' : gk_Wd) (S : Nat → Bool), gk_E (d + 2) 169 [.ref 27] w (.inl none) w' ∧ gk_Sh rr w' ∧ Fr [38] [] w w' ∧ BA w' 38 S ∧ isP false G S := by
  obtain ⟨w1, s1, f1, B1, g1⟩ := E169_z (d := d + 1) 16 0 w hS (by omega) (fun v hv => by omega)
  obtain ⟨w2, S2, s2, f2, B2, P2, g2⟩ := E169_w (d := d) 16 w1 _ s1 (RM_congr hR (Fr_i f1 (by simp)) (Fr_a f1 (by decide)) (Fr_a f1 (by decide)) (Fr_a f1 (by decide))) B1 (by omega) (fun T _ v hv => by cases hv)
  exact ⟨w2, S2, gk_E_i rfl rfl (sg_169_0 (d := d + 1) hS (g1 _ _ g2)), s2, Fr_trans f1 f2, B2, P2⟩
end MN
