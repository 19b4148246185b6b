/-! part 38: the reference: what is reached, what may vanish, the useless rules -/
def frS (S : Nat → Bool) (r : Rl) : Bool := S r.1 && r.2.all fun v => !decide (v < 16) || S v
def kS (p : (Nat → Bool) × Bool) (v : Nat) : (Nat → Bool) × Bool := if v < 16 ∧ p.1 v = false then (usb p.1 v, true) else p
def rS (p : (Nat → Bool) × Bool) (r : Rl) : (Nat → Bool) × Bool := if p.1 r.1 = true then r.2.foldl kS p else p
theorem kS_pass : ∀ (s : List Nat) (S : Nat → Bool) (m : Bool), (∀ u, S u = true → (s.foldl kS (S, m)).1 u = true) ∧ ((s.foldl kS (S, m)).2 = false → m = false ∧ (s.foldl kS (S, m)).1 = S ∧ ∀ v ∈ s, v < 16 → S v = true) ∧ ((s.foldl kS (S, m)).2 = true → m = true ∨ ∃ v, v < 16 ∧ S v = false ∧ (s.foldl kS (S, m)).1 v = true)
  | [], S, m => ⟨fun _ h => h, fun h => ⟨h, rfl, fun v hv => absurd hv List.not_mem_nil⟩, fun h => Or.inl h⟩
  | x :: s, S, m => by
    rw [List.foldl_cons]
    by_cases h1 : x < 16 ∧ S x = false
    · have e : kS (S, m) x = (usb S x, true) := by unfold kS; rw [if_pos h1]
      rw [e]
      obtain ⟨a1, a2, a3⟩ := kS_pass s (usb S x) true
      exact ⟨fun u hu => a1 u (usb_le S x u hu), fun h => absurd (a2 h).1 (by decide), fun _ => Or.inr ⟨x, h1.1, h1.2, a1 x (by simp [usb])⟩⟩
    · have e : kS (S, m) x = (S, m) := by unfold kS; rw [if_neg h1]
      rw [e]
      obtain ⟨a1, a2, a3⟩ := kS_pass s S m
      refine ⟨a1, fun h => ?_, a3⟩
      obtain ⟨b1, b2, b3⟩ := a2 h
      refine ⟨b1, b2, fun v hv h16 => ?_⟩
      rcases List.mem_cons.mp hv with rfl | hv
      · cases hx : S v
        · exact absurd ⟨h16, hx⟩ h1
        · rfl
      · exact b3 v hv h16
theorem kS_inv {T : Nat → Bool} : ∀ (s : List Nat) (S : Nat → Bool) (m : Bool), (∀ v ∈ s, v < 16 → T v = true) → (∀ v, S v = true → T v = true) → ∀ v, (s.foldl kS (S, m)).1 v = true → T v = true
  | [], S, m, _, h => h
  | x :: s, S, m, hs, h => by
    rw [List.foldl_cons]
    unfold kS
    split
    · rename_i h1
      refine kS_inv s _ true (fun v hv => hs v (List.mem_cons_of_mem _ hv)) fun v hv => ?_
      simp only [usb, Bool.or_eq_true, decide_eq_true_eq] at hv
      rcases hv with hv | rfl
      · exact h v hv
      · exact hs v List.mem_cons_self h1.1
    · exact kS_inv s S m (fun v hv => hs v (List.mem_cons_of_mem _ hv)) h
theorem rS_pass : ∀ (G : List Rl) (S : Nat → Bool) (m : Bool), (∀ u, S u = true → (G.foldl rS (S, m)).1 u = true) ∧ ((G.foldl rS (S, m)).2 = false → m = false ∧ (G.foldl rS (S, m)).1 = S ∧ ∀ r ∈ G, S r.1 = true → ∀ v ∈ r.2, v < 16 → S v = true) ∧ ((G.foldl rS (S, m)).2 = true → m = true ∨ ∃ v, v < 16 ∧ S v = false ∧ (G.foldl rS (S, m)).1 v = true)
  | [], S, m => ⟨fun _ h => h, fun h => ⟨h, rfl, fun v hv => absurd hv List.not_mem_nil⟩, fun h => Or.inl h⟩
  | r :: G, S, m => by
    rw [List.foldl_cons]
    by_cases h1 : S r.1 = true
    · have e : rS (S, m) r = r.2.foldl kS (S, m) := by unfold rS; rw [if_pos h1]
      rw [e]
      obtain ⟨c1, c2, c3⟩ := kS_pass r.2 S m
      have ep : r.2.foldl kS (S, m) = ((r.2.foldl kS (S, m)).1, (r.2.foldl kS (S, m)).2) := rfl
      rw [ep]
      obtain ⟨a1, a2, a3⟩ := rS_pass G (r.2.foldl kS (S, m)).1 (r.2.foldl kS (S, m)).2
      refine ⟨fun u hu => a1 u (c1 u hu), fun h => ?_, fun h => ?_⟩
      · obtain ⟨b1, b2, b3⟩ := a2 h
        obtain ⟨d1, d2, d3⟩ := c2 b1
        refine ⟨d1, b2.trans d2, fun q hq hs v hv h16 => ?_⟩
        rcases List.mem_cons.mp hq with rfl | hq
        · exact d3 v hv h16
        · rw [d2] at b3; exact b3 q hq hs v hv h16
      · rcases a3 h with h | ⟨v, h2, h3, h4⟩
        · rcases c3 h with h | ⟨v, h2, h3, h4⟩
          · exact Or.inl h
          · exact Or.inr ⟨v, h2, h3, a1 v h4⟩
        · refine Or.inr ⟨v, h2, ?_, h4⟩
          cases hx : S v
          · rfl
          · rw [c1 v hx] at h3; cases h3
    · have e : rS (S, m) r = (S, m) := by unfold rS; rw [if_neg h1]
      rw [e]
      obtain ⟨a1, a2, a3⟩ := rS_pass G S m
      refine ⟨a1, fun h => ?_, a3⟩
      obtain ⟨b1, b2, b3⟩ := a2 h
      refine ⟨b1, b2, fun q hq hs v hv h16 => ?_⟩
      rcases List.mem_cons.mp hq with rfl | hq
      · exact absurd hs h1
      · exact b3 q hq hs v hv h16
theorem rS_inv {H : List Rl} {T : Nat → Bool} (hT : clR H T) : ∀ (G : List Rl) (S : Nat → Bool) (m : Bool), (∀ r ∈ G, r ∈ H) → (∀ v, S v = true → T v = true) → ∀ v, (G.foldl rS (S, m)).1 v = true → T v = true
  | [], S, m, _, h => h
  | r :: G, S, m, hG, h => by
    rw [List.foldl_cons]
    have ep : rS (S, m) r = ((rS (S, m) r).1, (rS (S, m) r).2) := rfl
    rw [ep]
    refine rS_inv hT G _ _ (fun q hq => hG q (List.mem_cons_of_mem _ hq)) ?_
    unfold rS
    split
    · rename_i h1
      exact kS_inv r.2 S m (fun v hv h16 => hT.2 r (hG r List.mem_cons_self) (h _ h1) v hv h16) h
    · exact h
section MG
variable {d : Nat} {rr : List gk_S} {w : gk_Wd} {G : List Rl}
theorem BA_at {a : Nat} {S : Nat → Bool} (hB : BA w a S) {x : Int32} {v : Nat} (hx : x = Int32.ofNat v) (hv : v < 16) : (w_a w a).getD x.toNatClampNeg 0 = 0 ↔ S v = false := by
  rw [hx, i_nat (by omega), hB v hv, bI_0]
theorem E164_l (hS : gk_Sh rr w) (hR : RM w 4 28 G) {S : Nat → Bool} (hB : BA w 36 S) {i : Nat} (hi : i < G.length) : ∀ (m k : Nat) (b : Bool), k + m = G[i].2.length → gk_W none (d + 1) 164 22 [some (.ref 27), some (.int (Int32.ofNat i)), some (.int (bI b)), some (.int (Int32.ofNat k))] [] w (.inl (some (.int (bI (b || !((G[i].2.drop k).all fun v => !decide (v < 16) || S v)))))) w
  | 0, k, b, hk => by
    have h10 := (RM_ok hR hi).2.1
    refine sg_164_22 hS _ _ _ ⟨RM_out hR hi, fun _ => ⟨bI_b b, ?_, rfl⟩, fun q => absurd ((RM_sz hR hi (by omega)).mpr (by omega)) q⟩
    rw [List.drop_eq_nil_of_le (by omega)]; simp
  | m + 1, k, b, hk => by
    have h10 := (RM_ok hR hi).2.1
    have hkl : k < G[i].2.length := by omega
    have hs := (RM_ok hR hi).2.2 _ (List.getElem_mem hkl)
    have ea := RM_at hR hi hkl
    have ih := fun (b' : Bool) (e : b' = (b || !(!decide (G[i].2[k] < 16) || S G[i].2[k]))) => E164_l hS hR hB hi m (k + 1) b' (by omega)
    rw [List.drop_eq_getElem_cons hkl, List.all_cons, Bool.not_and, ← Bool.or_assoc]
    refine sg_164_22 hS _ _ _ ⟨RM_out hR hi, fun q => absurd ((RM_sz hR hi (by omega)).mp q) (by omega), fun _ => ⟨fun q1 => ?_, fun q1 => ⟨RM_io hR hi (by omega), fun q2 => ?_, fun q2 => ?_⟩⟩⟩
    · have hb : b = true := by
        cases b
        · exact absurd rfl q1
        · rfl
      rw [i_s, hb, Bool.true_or]
      exact E164_l hS hR hB hi m (k + 1) true (by omega)
    · have hb : b = false := bI_0.mp q1
      rw [ea, f_163_n (by omega)] at q2
      rw [i_s, hb, decide_eq_false (by omega)]
      exact E164_l hS hR hB hi m (k + 1) false (by omega)
    · have hb : b = false := bI_0.mp q1
      rw [ea, f_163_n (by omega)] at q2
      have h16 : G[i].2[k] < 16 := by omega
      refine ⟨RM_io hR hi (by omega), by rw [ea]; exact o_ok h16 (by omega), fun q3 => ?_, fun q3 => ?_⟩
      · rw [BA_at hB ea h16] at q3
        have : S G[i].2[k] = true := by simpa using q3
        rw [i_s, hb, this, Bool.or_true]
        exact E164_l hS hR hB hi m (k + 1) false (by omega)
      · rw [BA_at hB ea h16] at q3
        rw [i_s, hb, q3, decide_eq_true h16]
        exact E164_l hS hR hB hi m (k + 1) true (by omega)
/-- isBarren -/
theorem E164 (hS : gk_Sh rr w) (hR : RM w 4 28 G) {S : Nat → Bool} (hB : BA w 36 S) {i : Nat} (hi : i < G.length) : gk_E (d + 1) 164 [.ref 27, .int (Int32.ofNat i)] w (.inl (some (.int (bI (!frS S G[i]))))) w := by
  have hl16 := (RM_ok hR hi).1
  have el := RM_left hR hi
  have h0 := fun b => E164_l (d := d) hS hR hB hi G[i].2.length 0 b (by omega)
  refine gk_E_i rfl rfl (sg_164_0 hS _ ⟨RM_out hR hi, by rw [el]; exact o_ok hl16 (by omega), fun q => ?_, fun q => ?_⟩)
  · rw [BA_at hB el hl16] at q
    have e : S G[i].1 = true := by simpa using q
    have := h0 false
    rw [List.drop_zero, Bool.false_or] at this
    unfold frS
    rw [e, Bool.true_and]
    exact this
  · rw [BA_at hB el hl16] at q
    have := h0 true
    rw [Bool.true_or] at this
    unfold frS
    rw [q, Bool.false_and]
    exact this
theorem E165_k {i : Nat} (hi : i < G.length) : ∀ (n k : Nat) (w : gk_Wd) (S : Nat → Bool) (m : Bool), gk_Sh rr w → RM w 4 28 G → BA w 37 S → S G[i].1 = true → k + n = G[i].2.length → ∃ w1, gk_Sh rr w1 ∧ Fr [37] [] w w1 ∧ BA w1 37 ((G[i].2.drop k).foldl kS (S, m)).1 ∧ ∀ (r : gk_Res) (w' : gk_Wd), gk_W none (d + 1) 165 39 [some (.ref 27), some (.int (bI ((G[i].2.drop k).foldl kS (S, m)).2)), some (.int (Int32.ofNat (i + 1))), none] [] w1 r w' → gk_W none (d + 1) 165 49 [some (.ref 27), some (.int (bI m)), some (.int (Int32.ofNat i)), some (.int (Int32.ofNat k))] [] w r w'
  | 0, k, w, S, m, hS, hR, hB, hl, hk => by
    have h10 := (RM_ok hR hi).2.1
    rw [List.drop_eq_nil_of_le (by omega)]
    exact ⟨w, hS, Fr_refl, hB, fun r w' h => sg_165_49 hS _ _ _ ⟨RM_out hR hi, fun _ => by rw [i_s]; exact h, fun q => absurd ((RM_sz hR hi (by omega)).mpr (by omega)) q⟩⟩
  | n + 1, k, w, S, m, hS, hR, hB, hl, hk => by
    have h10 := (RM_ok hR hi).2.1
    have hl16 := (RM_ok hR hi).1
    have hkl : k < G[i].2.length := by omega
    have hs := (RM_ok hR hi).2.2 _ (List.getElem_mem hkl)
    have ea := RM_at hR hi hkl
    have el := RM_left hR hi
    have hlo : gk_out ((w_a w 28).getD (Int32.ofNat i).toNatClampNeg 0) 16 = false := by rw [el]; exact o_ok hl16 (by omega)
    have hnl : ¬ (w_a w 37).getD ((w_a w 28).getD (Int32.ofNat i).toNatClampNeg 0).toNatClampNeg 0 = 0 := fun q => by
      have := (BA_at hB el hl16).mp q
      rw [hl] at this; cases this
    have hnz : ¬ (w_a w 29).getD (Int32.ofNat i).toNatClampNeg 0 ≤ Int32.ofNat k := fun q => absurd ((RM_sz hR hi (by omega)).mp q) (by omega)
    rw [List.drop_eq_getElem_cons hkl, List.foldl_cons]
    by_cases h1 : G[i].2[k] < 16 ∧ S G[i].2[k] = false
    · have e : kS (S, m) G[i].2[k] = (usb S G[i].2[k], true) := by unfold kS; rw [if_pos h1]
      rw [e]
      have hS1 := sh_as hS ly_37 G[i].2[k] 1
      have hR1 : RM (w_sa w 37 ((w_a w 37).set G[i].2[k] 1)) 4 28 G := RM_congr hR w_i_sa (w_a_ne (by decide)) (w_a_ne (by decide)) (w_a_ne (by decide))
      obtain ⟨w1, s1, f1, B1, g1⟩ := E165_k hi n (k + 1) _ _ true hS1 hR1 (BA_set hS ly_37 hB h1.1) (usb_le S _ _ hl) (by omega)
      refine ⟨w1, s1, Fr_trans (Fr_sa (by decide) _) f1, B1, fun r w' h => sg_165_49 hS _ _ _ ⟨RM_out hR hi, fun q => absurd q hnz, fun _ => ⟨RM_out hR hi, hlo, fun q => absurd q hnl, fun _ => ⟨RM_io hR hi (by omega), fun q => ?_, fun _ => ⟨RM_io hR hi (by omega), by rw [ea]; exact o_ok h1.1 (by omega), fun _ => ⟨RM_io hR hi (by omega), by rw [ea]; exact o_ok h1.1 (by omega), ?_⟩, fun q => absurd ((BA_at hB ea h1.1).mpr h1.2) q⟩⟩⟩⟩⟩
      · rw [ea, f_163_n (by omega)] at q; omega
      · rw [ea, i_nat (by omega), i_s]; exact g1 r w' h
    · have e : kS (S, m) G[i].2[k] = (S, m) := by unfold kS; rw [if_neg h1]
      rw [e]
      obtain ⟨w1, s1, f1, B1, g1⟩ := E165_k hi n (k + 1) w S m hS hR hB hl (by omega)
      refine ⟨w1, s1, f1, B1, fun r w' h => sg_165_49 hS _ _ _ ⟨RM_out hR hi, fun q => absurd q hnz, fun _ => ⟨RM_out hR hi, hlo, fun q => absurd q hnl, fun _ => ⟨RM_io hR hi (by omega), fun q => ?_, fun q => ?_⟩⟩⟩⟩
      · rw [i_s]; exact g1 r w' h
      · rw [ea, f_163_n (by omega)] at q
        have h16 : G[i].2[k] < 16 := by omega
        refine ⟨RM_io hR hi (by omega), by rw [ea]; exact o_ok h16 (by omega), fun q2 => ?_, fun _ => by rw [i_s]; exact g1 r w' h⟩
        exact absurd ⟨h16, (BA_at hB ea h16).mp q2⟩ h1
theorem E165_p : ∀ (n i : Nat) (w : gk_Wd) (S : Nat → Bool) (m : Bool), gk_Sh rr w → RM w 4 28 G → BA w 37 S → i + n = G.length → ∃ w1, gk_Sh rr w1 ∧ Fr [37] [] w w1 ∧ BA w1 37 ((G.drop i).foldl rS (S, m)).1 ∧ ∀ (r : gk_Res) (w' : gk_Wd), gk_W none (d + 1) 165 31 [some (.ref 27), some (.int (bI ((G.drop i).foldl rS (S, m)).2)), none, none] [] w1 r w' → gk_W none (d + 1) 165 39 [some (.ref 27), some (.int (bI m)), some (.int (Int32.ofNat i)), none] [] w r w'
  | 0, i, w, S, m, hS, hR, hB, hi => by
    have h60 := RM_60 hR
    obtain rfl : i = G.length := by omega
    rw [List.drop_eq_nil_of_le (Nat.le_refl _)]
    exact ⟨w, hS, Fr_refl, hB, fun r w' h => sg_165_39 hS _ _ ⟨fun _ => h, fun q => absurd ((RM_le hR (by omega)).mpr (Nat.le_refl _)) q⟩⟩
  | n + 1, i, w, S, m, hS, hR, hB, hi => by
    have h60 := RM_60 hR
    have hil : i < G.length := by omega
    have hl16 := (RM_ok hR hil).1
    have h10 := (RM_ok hR hil).2.1
    have el := RM_left hR hil
    have hlo : gk_out ((w_a w 28).getD (Int32.ofNat i).toNatClampNeg 0) 16 = false := by rw [el]; exact o_ok hl16 (by omega)
    have hnle : ¬ w_i w 26 4 ≤ Int32.ofNat i := fun q => absurd ((RM_le hR (by omega)).mp q) (by omega)
    rw [List.drop_eq_getElem_cons hil, List.foldl_cons]
    by_cases h1 : S G[i].1 = true
    · have e : rS (S, m) G[i] = ((G[i].2.foldl kS (S, m)).1, (G[i].2.foldl kS (S, m)).2) := by unfold rS; rw [if_pos h1]
      rw [e]
      obtain ⟨w1, s1, f1, B1, g1⟩ := E165_k (d := d) hil G[i].2.length 0 w S m hS hR hB h1 (by omega)
      rw [List.drop_zero] at B1 g1
      obtain ⟨w2, s2, f2, B2, g2⟩ := E165_p n (i + 1) w1 _ (G[i].2.foldl kS (S, m)).2 s1 (RM_congr hR (Fr_i f1 (by simp)) (Fr_a f1 (by decide)) (Fr_a f1 (by decide)) (Fr_a f1 (by decide))) B1 (by omega)
      exact ⟨w2, s2, Fr_trans f1 f2, B2, fun r w' h => sg_165_39 hS _ _ ⟨fun q => absurd q hnle, fun _ => g1 r w' (g2 r w' h)⟩⟩
    · have e : rS (S, m) G[i] = (S, m) := by unfold rS; rw [if_neg h1]
      rw [e]
      obtain ⟨w1, s1, f1, B1, g1⟩ := E165_p n (i + 1) w S m hS hR hB (by omega)
      refine ⟨w1, s1, f1, B1, fun r w' h => sg_165_39 hS _ _ ⟨fun q => absurd q hnle, fun _ => sg_165_49 hS _ _ _ ⟨RM_out hR hil, fun _ => by rw [i_s]; exact g1 r w' h, fun _ => ⟨RM_out hR hil, hlo, fun _ => by rw [i_s]; exact g1 r w' h, fun q => absurd ((BA_at hB el hl16).mpr (by simpa using h1)) q⟩⟩⟩⟩
theorem E165_z : ∀ (m k : Nat) (w : gk_Wd), gk_Sh rr w → k + m = 16 → (∀ v, v < k → (w_a w 37).getD v 0 = bI (decide (v = 0))) → ∃ w1, gk_Sh rr w1 ∧ Fr [37] [] w w1 ∧ BA w1 37 (fun v => decide (v = 0)) ∧ ∀ (r : gk_Res) (w' : gk_Wd), gk_W none (d + 1) 165 31 [some (.ref 27), some (.int 1), none, none] [] w1 r w' → gk_W none (d + 1) 165 2 [some (.ref 27), some (.int (Int32.ofNat k)), none, none] [] w r w'
  | 0, k, w, hS, hk, hz => by
    obtain rfl : k = 16 := by omega
    exact ⟨w, hS, Fr_refl, fun v hv => hz v hv, fun r w' h => sg_165_2 hS _ ⟨fun _ => h, fun q => absurd (show (16 : Int32) ≤ Int32.ofNat 16 by decide) q⟩⟩
  | m + 1, k, w, hS, hk, hz => by
    have hl := (w_int hS ly_37).2
    obtain ⟨w1, s1, f1, B1, g1⟩ := E165_z m (k + 1) (w_sa w 37 ((w_a w 37).set k (bI (decide (k = 0))))) (sh_as hS ly_37 _ _) (by omega) (fun v hv => by
      rw [w_a_same hS ly_37, getD_set32 _ (by omega)]
      by_cases e : v = k
      · rw [if_pos e, e]
      · rw [if_neg e]; exact hz v (by omega))
    refine ⟨w1, s1, Fr_trans (Fr_sa (by decide) _) f1, B1, fun r w' h => sg_165_2 hS _ ⟨fun q => absurd ((i_le (a := 16) (by omega) (by omega)).mp q) (by omega), fun _ => ⟨fun q => ⟨o_ok (by omega) (by omega), ?_⟩, fun q => ⟨o_ok (by omega) (by omega), ?_⟩⟩⟩⟩
    · have h0 : k ≠ 0 := fun e => q (by rw [e]; rfl)
      have := g1 r w' h
      rw [decide_eq_false h0] at this
      rw [i_nat (by omega), i_s]; exact this
    · have h0 : k = 0 := (i_eq (b := 0) (by omega) (by omega)).mp q
      have := g1 r w' h
      rw [decide_eq_true h0] at this
      rw [i_nat (by omega), i_s]; exact this
theorem E165_w : ∀ (n : Nat) (w : gk_Wd) (S : Nat → Bool), gk_Sh rr w → RM w 4 28 G → BA w 37 S → 16 - cnt 16 S ≤ n → S 0 = true → (∀ T : Nat → Bool, clR G T → ∀ v, S v = true → T v = true) → ∃ (w1 : gk_Wd) (S1 : Nat → Bool), gk_Sh rr w1 ∧ Fr [37] [] w w1 ∧ BA w1 37 S1 ∧ isR G S1 ∧ gk_W none (d + 1) 165 31 [some (.ref 27), some (.int 1), none, none] [] w (.inl none) w1
  | n, w, S, hS, hR, hB, hn, h0, hT => by
    obtain ⟨w1, s1, f1, B1, g1⟩ := E165_p (d := d) G.length 0 w S false hS hR hB (by omega)
    rw [List.drop_zero] at B1 g1
    obtain ⟨a1, a2, a3⟩ := rS_pass G S false
    have hT' : ∀ T : Nat → Bool, clR G T → ∀ v, (G.foldl rS (S, false)).1 v = true → T v = true := fun T h => rS_inv h G S false (fun _ h => h) (hT T h)
    have hstart : ∀ (r : gk_Res) (w' : gk_Wd), gk_W none (d + 1) 165 39 [some (.ref 27), some (.int (bI false)), some (.int (Int32.ofNat 0)), none] [] w r w' → gk_W none (d + 1) 165 31 [some (.ref 27), some (.int 1), none, none] [] w r w' := fun r w' h => sg_165_31 hS _ ⟨fun q => absurd q (by decide), fun _ => h⟩
    cases hq : (G.foldl rS (S, false)).2 with
    | false =>
      obtain ⟨-, b2, b3⟩ := a2 hq
      rw [hq] at g1
      rw [b2] at B1
      exact ⟨w1, S, s1, f1, B1, ⟨⟨h0, b3⟩, hT⟩, hstart _ _ (g1 _ _ (sg_165_31 s1 _ ⟨fun _ => ⟨rfl, rfl⟩, fun q => absurd rfl q⟩))⟩
    | true =>
      rcases a3 hq with h | h
      · cases h
      · have hlt := cnt_lt 16 (fun i _ => a1 i) h
        have hle := cnt_le 16 (G.foldl rS (S, false)).1
        match n with
        | 0 => omega
        | n + 1 =>
          obtain ⟨w2, S2, s2, f2, B2, P2, g2⟩ := E165_w n w1 _ s1 (RM_congr hR (Fr_i f1 (by simp)) (Fr_a f1 (by decide)) (Fr_a f1 (by decide)) (Fr_a f1 (by decide))) B1 (by omega) (a1 0 h0) hT'
          rw [hq] at g1
          exact ⟨w2, S2, s2, Fr_trans f1 f2, B2, P2, hstart _ _ (g1 _ _ g2)⟩
/-- findReached -/
theorem E165 (hS : gk_Sh rr w) (hR : RM w 4 28 G) : ∃ (w' : gk_Wd) (S : Nat → Bool), gk_E (d + 1) 165 [.ref 27] w (.inl none) w' ∧ gk_Sh rr w' ∧ Fr [37] [] w w' ∧ BA w' 37 S ∧ isR G S := by
  obtain ⟨w1, s1, f1, B1, g1⟩ := E165_z (d := d) 16 0 w hS (by omega) (fun v hv => by omega)
  obtain ⟨w2, S2, s2, f2, B2, P2, g2⟩ := E165_w (d := d) 16 w1 _ s1 (RM_congr hR (Fr_i f1 (by simp)) (Fr_a f1 (by decide)) (Fr_a f1 (by decide)) (Fr_a f1 (by decide))) B1 (by omega) rfl (fun T hT v hv => by rw [of_decide_eq_true hv]; exact hT.1)
  exact ⟨w2, S2, gk_E_i rfl rfl (sg_165_0 hS (g1 _ _ g2)), s2, Fr_trans f1 f2, B2, P2⟩
theorem E161_a {S : Nat → Bool} (x1 : Int32) : ∀ (k : Nat) (w : gk_Wd) (H : List Rl), gk_Sh rr w → RM w 4 28 H → BA w 36 S → k ≤ H.length → ∃ w1, gk_Sh rr w1 ∧ Fr [28, 29, 30] [(26, 4)] w w1 ∧ RM w1 4 28 (dfl (frS S) k H) ∧ ∀ (r : gk_Res) (w' : gk_Wd), gk_W none (d + 2) 161 16 [some (.ref 27), some (.int x1), some (.int (Int32.ofNat 0 - 1))] [] w1 r w' → gk_W none (d + 2) 161 16 [some (.ref 27), some (.int x1), some (.int (Int32.ofNat k - 1))] [] w r w'
  | 0, w, H, hS, hR, hB, hk => ⟨w, hS, Fr_refl, by rw [dfl_0]; exact hR, fun _ _ h => h⟩
  | k + 1, w, H, hS, hR, hB, hk => by
    have h60 := RM_60 hR
    have hkl : k < H.length := by omega
    rw [i_down]
    cases hb : frS S H[k] with
    | true =>
      obtain ⟨w1, s1, f1, R1, g1⟩ := E161_a x1 k w H hS hR hB (by omega)
      rw [dfl_keep hkl hb]
      refine ⟨w1, s1, f1, R1, fun r w' h => sg_161_16 (d := d + 1) hS _ _ ⟨fun q => absurd q (i_neg (by omega)), fun _ => ⟨_, E164 hS hR hB hkl, fun _ => by rw [i_m1]; exact g1 r w' h, fun q => ?_⟩⟩⟩
      rw [hb] at q; exact absurd rfl q
    | false =>
      obtain ⟨w1, e1, s1, f1, R1⟩ := E155 (d := d) hS hR hkl
      obtain ⟨w2, s2, f2, R2, g2⟩ := E161_a x1 k w1 _ s1 R1 (fun v hv => by rw [Fr_a f1 (by decide)]; exact hB v hv) (by rw [List.length_eraseIdx_of_lt hkl]; omega)
      rw [dfl_drop hkl hb]
      refine ⟨w2, s2, Fr_trans f1 f2, R2, fun r w' h => sg_161_16 (d := d + 1) hS _ _ ⟨fun q => absurd q (i_neg (by omega)), fun _ => ⟨_, E164 hS hR hB hkl, fun q => ?_, fun _ => ⟨w1, e1, s1, by rw [i_m1]; exact g2 r w' h⟩⟩⟩⟩
      rw [hb] at q; exact absurd q (by decide)
theorem E161_b {S : Nat → Bool} (x1 : Int32) : ∀ (k : Nat) (w : gk_Wd) (H : List Rl), gk_Sh rr w → RM w 4 28 H → BA w 37 S → k ≤ H.length → ∃ w1, gk_Sh rr w1 ∧ Fr [28, 29, 30] [(26, 4)] w w1 ∧ RM w1 4 28 (dfl (fun r => S r.1) k H) ∧ ∀ (r : gk_Res) (w' : gk_Wd), gk_W none (d + 2) 161 50 [some (.ref 27), some (.int x1), some (.int (Int32.ofNat 0 - 1))] [] w1 r w' → gk_W none (d + 2) 161 50 [some (.ref 27), some (.int x1), some (.int (Int32.ofNat k - 1))] [] w r w'
  | 0, w, H, hS, hR, hB, hk => ⟨w, hS, Fr_refl, by rw [dfl_0]; exact hR, fun _ _ h => h⟩
  | k + 1, w, H, hS, hR, hB, hk => by
    have h60 := RM_60 hR
    have hkl : k < H.length := by omega
    have hl16 := (RM_ok hR hkl).1
    have el := RM_left hR hkl
    have hlo : gk_out ((w_a w 28).getD (Int32.ofNat k).toNatClampNeg 0) 16 = false := by rw [el]; exact o_ok hl16 (by omega)
    rw [i_down]
    cases hb : S H[k].1 with
    | true =>
      obtain ⟨w1, s1, f1, R1, g1⟩ := E161_b x1 k w H hS hR hB (by omega)
      rw [dfl_keep hkl hb]
      refine ⟨w1, s1, f1, R1, fun r w' h => sg_161_50 (d := d + 1) hS _ _ ⟨fun q => absurd q (i_neg (by omega)), fun _ => ⟨RM_out hR hkl, hlo, fun _ => by rw [i_m1]; exact g1 r w' h, fun q => ?_⟩⟩⟩
      have := (BA_at hB el hl16).mp q
      rw [hb] at this; cases this
    | false =>
      obtain ⟨w1, e1, s1, f1, R1⟩ := E155 (d := d) hS hR hkl
      obtain ⟨w2, s2, f2, R2, g2⟩ := E161_b x1 k w1 _ s1 R1 (fun v hv => by rw [Fr_a f1 (by decide)]; exact hB v hv) (by rw [List.length_eraseIdx_of_lt hkl]; omega)
      rw [dfl_drop hkl hb]
      exact ⟨w2, s2, Fr_trans f1 f2, R2, fun r w' h => sg_161_50 (d := d + 1) hS _ _ ⟨fun q => absurd q (i_neg (by omega)), fun _ => ⟨RM_out hR hkl, hlo, fun q => absurd ((BA_at hB el hl16).mpr hb) q, fun _ => ⟨w1, e1, s1, by rw [i_m1]; exact g2 r w' h⟩⟩⟩⟩
/-- takeUseless -/
theorem E161 (hS : gk_Sh rr w) (hR : RM w 4 28 G) : ∃ (H : List Rl) (w' : gk_Wd), isU G H ∧ gk_E (d + 2) 161 [.ref 27] w (.inl (some (.int (Int32.ofNat (G.length - H.length))))) w' ∧ gk_Sh rr w' ∧ Fr [28, 29, 30, 36, 37] [(26, 4)] w w' ∧ RM w' 4 28 H := by
  obtain ⟨w1, S, e1, s1, f1, B1, P1⟩ := E162 (d := d) hS hR
  have h60 := RM_60 hR
  have R1 : RM w1 4 28 G := RM_congr hR (Fr_i f1 (by simp)) (Fr_a f1 (by decide)) (Fr_a f1 (by decide)) (Fr_a f1 (by decide))
  obtain ⟨w2, s2, f2, R2, g2⟩ := E161_a (d := d) (S := S) (Int32.ofNat G.length) G.length w1 G s1 R1 B1 (Nat.le_refl _)
  rw [dfl_all] at R2
  obtain ⟨w3, T, e3, s3, f3, B3, P3⟩ := E165 (d := d) s2 R2
  have R3 : RM w3 4 28 (G.filter (frS S)) := RM_congr R2 (Fr_i f3 (by simp)) (Fr_a f3 (by decide)) (Fr_a f3 (by decide)) (Fr_a f3 (by decide))
  obtain ⟨w4, s4, f4, R4, g4⟩ := E161_b (d := d) (S := T) (Int32.ofNat G.length) _ w3 _ s3 R3 B3 (Nat.le_refl _)
  rw [dfl_all] at R4
  have hl1 : ((G.filter (frS S)).filter fun r => T r.1).length ≤ G.length := (List.filter_sublist.trans List.filter_sublist).length_le
  have f1' : Fr [28, 29, 30, 36, 37] [(26, 4)] w w1 := Fr_mono f1 (by decide) (by simp)
  have f2' : Fr [28, 29, 30, 36, 37] [(26, 4)] w1 w2 := Fr_mono f2 (by decide) (by simp)
  have f3' : Fr [28, 29, 30, 36, 37] [(26, 4)] w2 w3 := Fr_mono f3 (by decide) (by simp)
  have f4' : Fr [28, 29, 30, 36, 37] [(26, 4)] w3 w4 := Fr_mono f4 (by decide) (by simp)
  refine ⟨_, w4, ⟨S, T, P1, P3, rfl⟩, gk_E_i rfl rfl (sg_161_0 (d := d + 1) hS ⟨w1, e1, s1, ?_⟩), s4, Fr_trans f1' (Fr_trans f2' (Fr_trans f3' f4')), R4⟩
  rw [hR.1, R1.1]
  refine g2 _ _ (sg_161_16 (d := d + 1) s2 _ _ ⟨fun _ => ⟨w3, e3, s3, ?_⟩, fun q => absurd i_z1 q⟩)
  rw [R3.1]
  refine g4 _ _ (sg_161_50 (d := d + 1) s4 _ _ ⟨fun _ => ⟨?_, rfl⟩, fun q => absurd i_z1 q⟩)
  rw [R4.1, i_sub hl1]
  rfl
end MG
