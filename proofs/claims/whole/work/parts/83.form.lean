/-! part 57: Greibach's form: the reference -/
section MF
variable {d : Nat} {rr : List gk_S}
/-- step 1 for x -/
theorem E181_a {x : Nat} (hx : x < 16) : ∀ (n : Nat) (w : gk_Wd) (G : List Rl) (c : Nat), gk_Sh rr w → MA w (false, G) → w_i w 26 15 = Int32.ofNat c → n + c = 301 → 0 < n →
    ∃ w1, gk_Sh rr w1 ∧ Fr [28, 29, 30, 31, 32, 33, 34, 51] [(26, 4), (26, 8), (26, 12), (26, 14), (26, 15)] w w1 ∧ (∀ K c', itO (fstI (elB x)) n G c = some (K, c') → MA w1 (false, K) ∧ w_i w1 26 15 = Int32.ofNat c' ∧ c' ≤ 300 ∧ Go (d + 4) 181 110 [some (.ref 27), some (.int (Int32.ofNat x)), some (.int (oI (fstI (elB x) G)))] w 110 [some (.ref 27), some (.int (Int32.ofNat x)), some (.int (-1))] w1) ∧ (itO (fstI (elB x)) n G c = none → ∃ (K : List Rl) (v : Int32), MA w1 (true, K) ∧ Go (d + 4) 181 110 [some (.ref 27), some (.int (Int32.ofNat x)), some (.int (oI (fstI (elB x) G)))] w 110 [some (.ref 27), some (.int (Int32.ofNat x)), some (.int v)] w1)
  | 0, w, G, c, hS, hM, hc, hn, h0 => by omega
  | n + 1, w, G, c, hS, hM, hc, hn, _ => by
    have hR : RM w 4 28 G := hM.1
    have h14 : w_i w 26 14 = 0 := hM.2.2
    have h60 := RM_60 hR
    cases hf : (fstI (elB x)) G with
    | none =>
      have eI : itO (fstI (elB x)) (n + 1) G c = some (G, c) := by simp only [itO, hf]
      refine ⟨w, hS, Fr_refl, fun K c' e => ?_, fun e => by rw [eI] at e; cases e⟩
      rw [eI] at e
      cases e
      exact ⟨hM, hc, by omega, Go_refl⟩
    | some i =>
      obtain ⟨hi, hp⟩ := show ∃ hi : i < G.length, 0 < G[i].2.length from by
        obtain ⟨hi, h1⟩ := fstI_some hf
        exact ⟨hi, (of_decide_eq_true h1).2.1⟩
      have hne : ¬ oI (some i) < 0 := i_neg (by omega)
      obtain ⟨w1, e1, s1, f1, c1, k1, z1⟩ := E183 (d := d) hS hM hc (by omega) hi hp
      cases hr : rpF G c i with
      | none =>
        have eI : itO (fstI (elB x)) (n + 1) G c = none := by simp only [itO, hf, hr]
        obtain ⟨K, M1⟩ := z1 hr
        refine ⟨w1, s1, f1, fun K c' e => (by rw [eI] at e; cases e), fun _ => ⟨K, oI (fstI (elB x) K), M1, fun r w' h => ?_⟩⟩
        exact sg_181_110 (d := d + 3) hS _ _ ⟨fun q => absurd q hne, fun _ => ⟨fun q => absurd h14 q, fun _ => ⟨w1, e1, s1, _, E182 (d := d + 2) s1 M1.1 hx, h⟩⟩⟩
      | some H =>
        have M1 := k1 H hr
        have eI : itO (fstI (elB x)) (n + 1) G c = itO (fstI (elB x)) n H (c + 1) := by simp only [itO, hf, hr]
        have hc3 : c < 300 := by
          refine Classical.byContradiction fun q => ?_
          unfold rpF at hr
          rw [if_neg q] at hr; cases hr
        obtain ⟨w2, s2, f2, k2, z2⟩ := E181_a hx n w1 H (c + 1) s1 M1 c1 (by omega) (by omega)
        rw [eI]
        refine ⟨w2, s2, Fr_trans f1 f2, fun K c' e => ?_, fun e => ?_⟩
        · obtain ⟨M2, c2, l2, g2⟩ := k2 K c' e
          exact ⟨M2, c2, l2, fun r w' h => sg_181_110 (d := d + 3) hS _ _ ⟨fun q => absurd q hne, fun _ => ⟨fun q => absurd h14 q, fun _ => ⟨w1, e1, s1, _, E182 (d := d + 2) s1 M1.1 hx, g2 r w' h⟩⟩⟩⟩
        · obtain ⟨K, v, M2, g2⟩ := z2 e
          exact ⟨K, v, M2, fun r w' h => sg_181_110 (d := d + 3) hS _ _ ⟨fun q => absurd q hne, fun _ => ⟨fun q => absurd h14 q, fun _ => ⟨w1, e1, s1, _, E182 (d := d + 2) s1 M1.1 hx, g2 r w' h⟩⟩⟩⟩
/-- step 3 -/
theorem E181_b {od : Nat → Bool} : ∀ (n : Nat) (w : gk_Wd) (G : List Rl) (c : Nat), gk_Sh rr w → MA w (false, G) → w_i w 26 15 = Int32.ofNat c → BA w 35 od → n + c = 301 → 0 < n →
    ∃ w1, gk_Sh rr w1 ∧ Fr [28, 29, 30, 31, 32, 33, 34, 51] [(26, 4), (26, 8), (26, 12), (26, 14), (26, 15)] w w1 ∧ (∀ K c', itO (nxI od) n G c = some (K, c') → MA w1 (false, K) ∧ w_i w1 26 15 = Int32.ofNat c' ∧ c' ≤ 300 ∧ Go (d + 4) 181 151 [some (.ref 27), some (.int (oI (nxI od G))), none] w 151 [some (.ref 27), some (.int (-1)), none] w1) ∧ (itO (nxI od) n G c = none → ∃ (K : List Rl) (v : Int32), MA w1 (true, K) ∧ Go (d + 4) 181 151 [some (.ref 27), some (.int (oI (nxI od G))), none] w 151 [some (.ref 27), some (.int v), none] w1)
  | 0, w, G, c, hS, hM, hc, hB, hn, h0 => by omega
  | n + 1, w, G, c, hS, hM, hc, hB, hn, _ => by
    have hR : RM w 4 28 G := hM.1
    have h14 : w_i w 26 14 = 0 := hM.2.2
    have h60 := RM_60 hR
    cases hf : (nxI od) G with
    | none =>
      have eI : itO (nxI od) (n + 1) G c = some (G, c) := by simp only [itO, hf]
      refine ⟨w, hS, Fr_refl, fun K c' e => ?_, fun e => by rw [eI] at e; cases e⟩
      rw [eI] at e
      cases e
      exact ⟨hM, hc, by omega, Go_refl⟩
    | some i =>
      obtain ⟨hi, hp⟩ := nxI_some hf
      have hne : ¬ oI (some i) < 0 := i_neg (by omega)
      obtain ⟨w1, e1, s1, f1, c1, k1, z1⟩ := E183 (d := d) hS hM hc (by omega) hi hp
      cases hr : rpF G c i with
      | none =>
        have eI : itO (nxI od) (n + 1) G c = none := by simp only [itO, hf, hr]
        obtain ⟨K, M1⟩ := z1 hr
        have B1 : BA w1 35 od := fun v hv => by rw [Fr_a f1 (by decide)]; exact hB v hv
        refine ⟨w1, s1, f1, fun K c' e => (by rw [eI] at e; cases e), fun _ => ⟨K, oI (nxI od K), M1, fun r w' h => ?_⟩⟩
        exact sg_181_151 (d := d + 3) hS _ ⟨fun q => absurd q hne, fun _ => ⟨fun q => absurd h14 q, fun _ => ⟨w1, e1, s1, _, E187 (d := d + 2) s1 M1.1 B1, h⟩⟩⟩
      | some H =>
        have M1 := k1 H hr
        have eI : itO (nxI od) (n + 1) G c = itO (nxI od) n H (c + 1) := by simp only [itO, hf, hr]
        have hc3 : c < 300 := by
          refine Classical.byContradiction fun q => ?_
          unfold rpF at hr
          rw [if_neg q] at hr; cases hr
        have B1 : BA w1 35 od := fun v hv => by rw [Fr_a f1 (by decide)]; exact hB v hv
        obtain ⟨w2, s2, f2, k2, z2⟩ := E181_b n w1 H (c + 1) s1 M1 c1 B1 (by omega) (by omega)
        rw [eI]
        refine ⟨w2, s2, Fr_trans f1 f2, fun K c' e => ?_, fun e => ?_⟩
        · obtain ⟨M2, c2, l2, g2⟩ := k2 K c' e
          exact ⟨M2, c2, l2, fun r w' h => sg_181_151 (d := d + 3) hS _ ⟨fun q => absurd q hne, fun _ => ⟨fun q => absurd h14 q, fun _ => ⟨w1, e1, s1, _, E187 (d := d + 2) s1 M1.1 B1, g2 r w' h⟩⟩⟩⟩
        · obtain ⟨K, v, M2, g2⟩ := z2 e
          exact ⟨K, v, M2, fun r w' h => sg_181_151 (d := d + 3) hS _ ⟨fun q => absurd q hne, fun _ => ⟨fun q => absurd h14 q, fun _ => ⟨w1, e1, s1, _, E187 (d := d + 2) s1 M1.1 B1, g2 r w' h⟩⟩⟩⟩
/-- the names, when a limit was passed -/
theorem E181_t {w : gk_Wd} {K : List Rl} (hS : gk_Sh rr w) (hM : MA w (true, K)) : ∀ (m k : Nat), k + m = 22 → gk_W none (d + 4) 181 178 [some (.ref 27), none, some (.int (Int32.ofNat k))] [] w (.inl none) w
  | 0, k, hk => by
    obtain rfl : k = 22 := by omega
    exact sg_181_178 (d := d + 3) hS _ ⟨fun _ => ⟨rfl, rfl⟩, fun q => absurd (by decide) q⟩
  | m + 1, k, hk => by
    refine sg_181_178 (d := d + 3) hS _ ⟨fun q => absurd ((i_le (a := 22) (by omega) (by omega)).mp q) (by omega), fun _ => ⟨w, E188_t (d := d + 2) hS hM _, hS, ?_⟩⟩
    rw [i_s]; exact E181_t hS hM m (k + 1) (by omega)
/-- the letters -/
theorem E181_n : ∀ (m k : Nat) (w : gk_Wd) (G : List Rl), gk_Sh rr w → MA w (false, G) → k + m = 6 → ∃ w1, gk_Sh rr w1 ∧ Fr [28, 29, 30, 31, 32, 33, 34] [(26, 4), (26, 8), (26, 12), (26, 14)] w w1 ∧ (∀ K, nmC (lts.drop k) G = some K → MA w1 (false, K)) ∧ (nmC (lts.drop k) G = none → ∃ K, MA w1 (true, K)) ∧ gk_W none (d + 4) 181 178 [some (.ref 27), none, some (.int (Int32.ofNat (16 + k)))] [] w (.inl none) w1
  | 0, k, w, G, hS, hM, hk => by
    obtain rfl : k = 6 := by omega
    exact ⟨w, hS, Fr_refl, fun K e => (by cases e; exact hM), fun e => (by cases e), sg_181_178 (d := d + 3) hS _ ⟨fun _ => ⟨rfl, rfl⟩, fun q => absurd (by decide) q⟩⟩
  | m + 1, k, w, G, hS, hM, hk => by
    have n22 : ¬ (22 : Int32) ≤ Int32.ofNat (16 + k) := fun q => absurd ((i_le (a := 22) (by omega) (by omega)).mp q) (by omega)
    obtain ⟨w1, e1, s1, f1, k1, z1⟩ := E188 (d := d) hS hM (c := 16 + k) (by omega)
    rw [lts_s (by omega)]
    simp only [nmC]
    cases hn : nmO (16 + k) G with
    | none =>
      obtain ⟨K, M1⟩ := z1 hn
      refine ⟨w1, s1, f1, fun K e => (by cases e), fun _ => ⟨K, M1⟩, sg_181_178 (d := d + 3) hS _ ⟨fun q => absurd q n22, fun _ => ⟨w1, e1, s1, ?_⟩⟩⟩
      rw [i_s]; exact E181_t s1 M1 (22 - (16 + k + 1)) (16 + k + 1) (by omega)
    | some H =>
      obtain ⟨w2, s2, f2, k2, z2, g2⟩ := E181_n m (k + 1) w1 H s1 (k1 H hn) (by omega)
      refine ⟨w2, s2, Fr_trans f1 f2, k2, z2, sg_181_178 (d := d + 3) hS _ ⟨fun q => absurd q n22, fun _ => ⟨w1, e1, s1, ?_⟩⟩⟩
      rw [i_s]; exact g2
/-- from the loop over the variables on, when a limit was passed -/
theorem E181_x {w : gk_Wd} {K : List Rl} (hS : gk_Sh rr w) (hM : MA w (true, K)) {od : Nat → Bool} (hB : BA w 35 od) (x : Int32) : gk_W none (d + 4) 181 79 [some (.ref 27), some (.int x), none] [] w (.inl none) w := by
  have h14 : ¬ w_i w 26 14 = 0 := by
    rw [hM.2.2]; exact (by decide : ¬ bI true = 0)
  have e1 := E187 (d := d + 2) hS hM.1 hB
  have g1 : ∀ v : Int32, gk_W none (d + 4) 181 151 [some (.ref 27), some (.int v), none] [] w (.inl none) w := fun v => sg_181_151 (d := d + 3) hS _ ⟨fun _ => E181_t hS hM 6 16 rfl, fun _ => ⟨fun _ => E181_t hS hM 6 16 rfl, fun q => absurd q h14⟩⟩
  exact sg_181_79 (d := d + 3) hS _ ⟨fun _ => ⟨_, e1, g1 _⟩, fun _ => ⟨fun _ => ⟨_, e1, g1 _⟩, fun q => absurd q h14⟩⟩
theorem E181_l {od : Nat → Bool} {p0 : List Rl × Nat} : ∀ (m k : Nat) (w : gk_Wd) (p : List Rl × Nat), gk_Sh rr w → MA w (false, p.1) → w_i w 26 15 = Int32.ofNat p.2 → p.2 ≤ 300 → BA w 35 od → k + m = 16 → (∀ o, chR od ((List.range 16).drop k) p o → chR od (List.range 16) p0 o) →
    ∃ (o : Option (List Rl)) (w1 : gk_Wd), mkG od p0 o ∧ gk_Sh rr w1 ∧ Fr [28, 29, 30, 31, 32, 33, 34, 51] [(26, 4), (26, 8), (26, 12), (26, 14), (26, 15)] w w1 ∧ (∀ K, o = some K → MA w1 (false, K)) ∧ (o = none → ∃ K, MA w1 (true, K)) ∧ gk_W none (d + 4) 181 79 [some (.ref 27), some (.int (Int32.ofNat k)), none] [] w (.inl none) w1
  | 0, k, w, p, hS, hM, hc, h3, hB, hk, hch => by
    obtain rfl : k = 16 := by omega
    have h1 := hch (some p) rfl
    have e1 := E187 (d := d + 2) hS hM.1 hB
    obtain ⟨w1, s1, f1, k1, z1⟩ := E181_b (d := d) (od := od) (301 - p.2) w p.1 p.2 hS hM hc hB (by omega) (by omega)
    cases hi : itO (nxI od) (301 - p.2) p.1 p.2 with
    | none =>
      obtain ⟨K, v, M1, g1⟩ := z1 hi
      have h14 : ¬ w_i w1 26 14 = 0 := by
        rw [M1.2.2]; exact (by decide : ¬ bI true = 0)
      refine ⟨none, w1, ⟨some p, h1, by simp only [hi]⟩, s1, f1, fun K e => (by cases e), fun _ => ⟨K, M1⟩, sg_181_79 (d := d + 3) hS _ ⟨fun _ => ⟨_, e1, g1 _ _ (sg_181_151 (d := d + 3) s1 _ ⟨fun _ => E181_t s1 M1 6 16 rfl, fun _ => ⟨fun _ => E181_t s1 M1 6 16 rfl, fun q => absurd q h14⟩⟩)⟩, fun q => absurd y16 q⟩⟩
    | some t =>
      obtain ⟨M1, -, -, g1⟩ := k1 t.1 t.2 hi
      obtain ⟨w2, s2, f2, k2, z2, g2⟩ := E181_n (d := d) 6 0 w1 t.1 s1 M1 rfl
      exact ⟨nmC lts t.1, w2, ⟨some p, h1, by simp only [hi]⟩, s2, Fr_trans f1 (Fr_mono f2 (by simp) (by simp)), k2, z2, sg_181_79 (d := d + 3) hS _ ⟨fun _ => ⟨_, e1, g1 _ _ (sg_181_151 (d := d + 3) s1 _ ⟨fun _ => g2, fun q => absurd (by decide) q⟩)⟩, fun q => absurd y16 q⟩⟩
  | m + 1, k, w, p, hS, hM, hc, h3, hB, hk, hch => by
    have hk16 : k < 16 := by omega
    rw [rg_s ⟨k, hk16⟩] at hch
    have h14 : w_i w 26 14 = 0 := hM.2.2
    have eo : (w_a w 35).getD (Int32.ofNat k).toNatClampNeg 0 = 0 ↔ od k = false := BA_at hB rfl hk16
    cases hod : od k with
    | false =>
      obtain ⟨o, w1, h1, s1, f1, k1, z1, g1⟩ := E181_l m (k + 1) w p hS hM hc h3 hB (by omega) (fun o h => hch o ⟨some p, by unfold stR; rw [if_neg (by simp only [hod]; decide)], h⟩)
      exact ⟨o, w1, h1, s1, f1, k1, z1, sg_181_79 (d := d + 3) hS _ ⟨fun q => absurd q (n16 hk16), fun _ => ⟨fun q => absurd h14 q, fun _ => ⟨o16 hk16, fun q => absurd (eo.mpr hod) q, fun _ => by rw [i_s]; exact g1⟩⟩⟩⟩
    | true =>
      have no : ¬ (w_a w 35).getD (Int32.ofNat k).toNatClampNeg 0 = 0 := by rw [eo, hod]; decide
      have e1 := E182 (d := d + 2) hS hM.1 hk16
      obtain ⟨w1, s1, f1, k1, z1⟩ := E181_a (d := d) hk16 (301 - p.2) w p.1 p.2 hS hM hc (by omega) (by omega)
      have B1 : BA w1 35 od := fun v hv => by rw [Fr_a f1 (by decide)]; exact hB v hv
      cases hi : itO (fstI (elB k)) (301 - p.2) p.1 p.2 with
      | none =>
        obtain ⟨K, v, M1, g1⟩ := z1 hi
        have n14 : ¬ w_i w1 26 14 = 0 := by
          rw [M1.2.2]; exact (by decide : ¬ bI true = 0)
        have e2 := E184_t (d := d + 1) s1 M1 hk16
        refine ⟨none, w1, ⟨none, hch none ⟨none, by unfold stR; rw [if_pos hod, hi], rfl⟩, rfl⟩, s1, f1, fun K e => (by cases e), fun _ => ⟨K, M1⟩, sg_181_79 (d := d + 3) hS _ ⟨fun q => absurd q (n16 hk16), fun _ => ⟨fun q => absurd h14 q, fun _ => ⟨o16 hk16, fun _ => ⟨_, e1, g1 _ _ (sg_181_110 (d := d + 3) s1 _ _ ⟨fun _ => ⟨w1, e2, s1, E181_x s1 M1 B1 _⟩, fun _ => ⟨fun _ => ⟨w1, e2, s1, E181_x s1 M1 B1 _⟩, fun q => absurd q n14⟩⟩)⟩, fun q => absurd q no⟩⟩⟩⟩
      | some q =>
        obtain ⟨M1, c1, l1, g1⟩ := k1 q.1 q.2 hi
        obtain ⟨o2, w2, h2, e2, s2, f2, k2, z2⟩ := E184 (d := d) s1 M1 hk16
        have B2 : BA w2 35 od := fun v hv => by rw [Fr_a f2 (by decide)]; exact B1 v hv
        have st2 : stR od k p (o2.map fun K => (K, q.2)) := by
          unfold stR; rw [if_pos hod, hi]; exact ⟨o2, h2, rfl⟩
        have f12 : Fr [28, 29, 30, 31, 32, 33, 34, 51] [(26, 4), (26, 8), (26, 12), (26, 14), (26, 15)] w w2 := Fr_trans f1 (Fr_mono f2 (by simp) (by simp))
        have hgo : ∀ (r : gk_Res) (w' : gk_Wd), gk_W none (d + 4) 181 79 [some (.ref 27), some (.int (Int32.ofNat k + 1)), none] [] w2 r w' → gk_W none (d + 4) 181 79 [some (.ref 27), some (.int (Int32.ofNat k)), none] [] w r w' := fun r w' h => sg_181_79 (d := d + 3) hS _ ⟨fun q => absurd q (n16 hk16), fun _ => ⟨fun q => absurd h14 q, fun _ => ⟨o16 hk16, fun _ => ⟨_, e1, g1 _ _ (sg_181_110 (d := d + 3) s1 _ _ ⟨fun _ => ⟨w2, e2, s2, h⟩, fun q => absurd (by decide) q⟩)⟩, fun q => absurd q no⟩⟩⟩
        cases o2 with
        | none =>
          obtain ⟨K, M2⟩ := z2 rfl
          exact ⟨none, w2, ⟨none, hch none ⟨none, st2, rfl⟩, rfl⟩, s2, f12, fun K e => (by cases e), fun _ => ⟨K, M2⟩, hgo _ _ (E181_x s2 M2 B2 _)⟩
        | some K =>
          obtain ⟨o3, w3, h3, s3, f3, k3, z3, g3⟩ := E181_l m (k + 1) w2 (K, q.2) s2 (k2 K rfl) (by rw [Fr_i f2 (by decide)]; exact c1) l1 B2 (by omega) (fun o h => hch o ⟨some (K, q.2), st2, h⟩)
          exact ⟨o3, w3, h3, s3, Fr_trans f12 f3, k3, z3, hgo _ _ (by rw [i_s]; exact g3)⟩
/-- the marks of the left sides -/
theorem E181_s {w : gk_Wd} {G : List Rl} (hS : gk_Sh rr w) (hR : RM w 4 28 G) : ∃ w1, gk_Sh rr w1 ∧ Fr [35] [] w w1 ∧ BA w1 35 (lhs G) ∧ Go (d + 4) 181 30 [some (.ref 27), some (.int (Int32.ofNat 0)), none] w 79 [some (.ref 27), some (.int (Int32.ofNat 0)), none] w1 := by
  have h60 := RM_60 hR
  obtain ⟨-, w1, ⟨s1, f1, h1⟩, g1⟩ := up_loop (α := Unit) (d := d + 4) (mi := 181) (pc := 30) 16 (fun k _ => [some (.ref 27), some (.int (Int32.ofNat k)), none])
    (fun k _ w1 => gk_Sh rr w1 ∧ Fr [35] [] w w1 ∧ ∀ v, v < k → (w_a w1 35).getD v 0 = 0)
    (fun k _ w1 hk hI => by
      obtain ⟨s1, f1, h1⟩ := hI
      have hl := (w_int s1 ly_35).2
      refine ⟨(), _, ⟨sh_as s1 ly_35 k 0, Fr_trans f1 (Fr_sa (by simp) _), fun v hv => ?_⟩, fun r w' g => sg_181_30 (d := d + 3) s1 _ ⟨fun q => absurd q (n16 hk), fun _ => ⟨o16 hk, by rw [i_nat (by omega), i_s]; exact g⟩⟩⟩
      rw [w_a_same s1 ly_35, getD_set32 _ (by omega)]
      by_cases e : v = k
      · rw [if_pos e]
      · rw [if_neg e]; exact h1 v (by omega)) 16 0 () w (by omega) ⟨hS, Fr_refl, fun v hv => by omega⟩
  obtain ⟨-, w2, ⟨s2, f2, h2⟩, g2⟩ := up_loop (α := Unit) (d := d + 4) (mi := 181) (pc := 51) G.length (fun k _ => [some (.ref 27), some (.int (Int32.ofNat k)), none])
    (fun k _ w2 => gk_Sh rr w2 ∧ Fr [35] [] w w2 ∧ BA w2 35 (lhs (G.take k)))
    (fun k _ w2 hk hI => by
      obtain ⟨s2, f2, h2⟩ := hI
      have R2 : RM w2 4 28 G := RM_Fr hR f2 (by decide) (by simp)
      have el := RM_left R2 hk
      have hok := RM_ok R2 hk
      have h16 := hok.1
      have hle : ¬ w_i w2 26 4 ≤ Int32.ofNat k := fun q => absurd ((RM_le R2 (by omega)).mp q) (by omega)
      refine ⟨(), _, ⟨sh_as s2 ly_35 G[k].1 1, Fr_trans f2 (Fr_sa (by simp) _), fun v hv => ?_⟩, fun r w' g => sg_181_51 (d := d + 3) s2 _ ⟨fun q => absurd q hle, fun _ => ⟨RM_out R2 hk, by rw [el]; exact o16 h16, by rw [el, i_nat (by omega), i_s]; exact g⟩⟩⟩
      rw [BA_set s2 ly_35 h2 h16 v hv]
      congr 1
      unfold usb lhs
      rw [List.take_succ_eq_append_getElem hk, List.any_append]
      simp only [List.any_cons, List.any_nil, Bool.or_false]
      congr 1
      exact decide_eq_decide.mpr ⟨fun h => h.symm, fun h => h.symm⟩) G.length 0 () w1 (by omega) ⟨s1, f1, fun v hv => by rw [h1 v hv]; rfl⟩
  rw [List.take_of_length_le (Nat.le_refl _)] at h2
  have R2 : RM w2 4 28 G := RM_Fr hR f2 (by decide) (by simp)
  exact ⟨w2, s2, f2, h2, fun r w' h => g1 r w' (sg_181_30 (d := d + 3) s1 _ ⟨fun _ => g2 r w' (sg_181_51 (d := d + 3) s2 _ ⟨fun _ => h, fun q => absurd ((RM_le R2 (by omega)).mpr (Nat.le_refl _)) q⟩), fun q => absurd y16 q⟩)⟩
/-- makeForm -/
theorem E181 {w : gk_Wd} {G : List Rl} (hS : gk_Sh rr w) (hR : RM w 4 28 G) (hs : srt G) (ho : w_i w 26 14 = 0) (hc : w_i w 26 15 = 0) : ∃ (o : Option (List Rl)) (w' : gk_Wd), greR G o ∧ gk_E (d + 4) 181 [.ref 27] w (.inl none) w' ∧ gk_Sh rr w' ∧ Fr [28, 29, 30, 31, 32, 33, 34, 35, 36, 37, 38, 40, 51] [(26, 4), (26, 8), (26, 12), (26, 14), (26, 15)] w w' ∧ (∀ K, o = some K → MA w' (false, K)) ∧ (o = none → ∃ K, MA w' (true, K)) := by
  obtain ⟨o1, w1, h1, e1, s1, f1, k1, z1⟩ := E168 (d := d) hS hR hs ho
  have F1 : Fr [28, 29, 30, 31, 32, 33, 34, 35, 36, 37, 38, 40, 51] [(26, 4), (26, 8), (26, 12), (26, 14), (26, 15)] w w1 := Fr_mono f1 (by simp) (by simp)
  cases o1 with
  | none =>
    obtain ⟨K, M1⟩ := z1 rfl
    have n14 : ¬ w_i w1 26 14 = 0 := by
      rw [M1.2.2]; exact (by decide : ¬ bI true = 0)
    exact ⟨none, w1, ⟨none, h1, rfl⟩, gk_E_i rfl rfl (sg_181_0 (d := d + 3) hS ⟨w1, e1, s1, fun _ => ⟨fun q => absurd q n14, fun _ => ⟨rfl, rfl⟩⟩, fun q => absurd q n14⟩), s1, F1, fun K e => (by cases e), fun _ => ⟨K, M1⟩⟩
  | some G1 =>
    have M1 := k1 G1 rfl
    have y14 : w_i w1 26 14 = 0 := M1.2.2
    obtain ⟨o2, w2, h2, e2, s2, f2, k2, z2⟩ := E177 (d := d) s1 M1.1 M1.2.1 y14
    have F2 : Fr [28, 29, 30, 31, 32, 33, 34, 35, 36, 37, 38, 40, 51] [(26, 4), (26, 8), (26, 12), (26, 14), (26, 15)] w w2 := Fr_trans F1 (Fr_mono f2 (by simp) (by simp))
    cases o2 with
    | none =>
      obtain ⟨K, M2⟩ := z2 rfl
      have n14 : ¬ w_i w2 26 14 = 0 := by
        rw [M2.2.2]; exact (by decide : ¬ bI true = 0)
      exact ⟨none, w2, ⟨some G1, h1, none, h2, rfl⟩, gk_E_i rfl rfl (sg_181_0 (d := d + 3) hS ⟨w1, e1, s1, fun q => absurd y14 q, fun _ => ⟨w2, e2, s2, fun q => absurd q n14, fun _ => ⟨rfl, rfl⟩⟩⟩), s2, F2, fun K e => (by cases e), fun _ => ⟨K, M2⟩⟩
    | some G2 =>
      have M2 := k2 G2 rfl
      have y142 : w_i w2 26 14 = 0 := M2.2.2
      obtain ⟨G3, w3, h3, e3, s3, f3, R3⟩ := E161 (d := d + 1) s2 M2.1
      have t3 : srt G3 := M2.2.1.sublist (isU_sub h3)
      obtain ⟨w4, s4, f4, B4, g4⟩ := E181_s (d := d) s3 R3
      have M4 : MA w4 (false, G3) := ⟨RM_Fr R3 f4 (by decide) (by simp), t3, by rw [Fr_i f4 (by simp), Fr_i f3 (by decide), y142]; rfl⟩
      have c4 : w_i w4 26 15 = Int32.ofNat 0 := by rw [Fr_i f4 (by simp), Fr_i f3 (by decide), Fr_i f2 (by decide), Fr_i f1 (by decide), hc]; rfl
      obtain ⟨o5, w5, h5, s5, f5, k5, z5, g5⟩ := E181_l (d := d) (od := lhs G3) (p0 := (G3, 0)) 16 0 w4 (G3, 0) s4 M4 c4 (by simp) B4 rfl (fun o h => h)
      refine ⟨o5, w5, ⟨some G1, h1, some G2, h2, G3, h3, h5⟩, gk_E_i rfl rfl (sg_181_0 (d := d + 3) hS ⟨w1, e1, s1, fun q => absurd y14 q, fun _ => ⟨w2, e2, s2, fun _ => ⟨_, w3, e3, s3, g4 _ _ g5⟩, fun q => absurd y142 q⟩⟩), s5, Fr_trans F2 (Fr_trans (Fr_mono f3 (by simp) (by simp)) (Fr_trans (Fr_mono f4 (by simp) (by simp)) (Fr_mono f5 (by simp) (by simp)))), k5, z5⟩
end MF
