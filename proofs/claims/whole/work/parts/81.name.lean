/-! part 55: letters get names -/
def stB (c : Nat) (G : List Rl) : Bool := G.any fun r => decide (c ∈ r.2.drop 1)
def nmL (c v : Nat) (G : List Rl) : List (Option Rl) := G.map (fun g => some (g.1, rnB c v g.2)) ++ [some (v, [c])]
def nmO (c : Nat) (G : List Rl) : Option (List Rl) := if stB c G = false then some G else match frV G with
  | none => none
  | some v => puA (nmL c v G) []
def nmC : List Nat → List Rl → Option (List Rl)
  | [], G => some G
  | c :: cs, G => match nmO c G with
    | none => none
    | some H => nmC cs H
theorem nmL_s {c v : Nat} {G : List Rl} {k : Nat} (hk : k < G.length) : nmL c v (G.drop k) = some (G[k].1, rnB c v G[k].2) :: nmL c v (G.drop (k + 1)) := by
  rw [List.drop_eq_getElem_cons hk]; rfl
section NM
variable {d : Nat} {rr : List gk_S} {w : gk_Wd} {G : List Rl}
/-- standsInside -/
theorem E123 (hS : gk_Sh rr w) (hR : RS w 5 G) {c : Nat} (hc : c < 22) : gk_E (d + 2) 123 [.ref 6, .int (Int32.ofNat c)] w (.inl (some (.int (bI (stB c G))))) w := by
  have h60 := RS_60 hR
  have := scan (d := d + 2) (mi := 123) (pc := 2) (w := w) (fun r => decide (c ∈ r.2.drop 1)) G (fun k => [some (.ref (5 + 1)), some (.int (Int32.ofNat c)), some (.int k)]) (fun _ => 1) 0 (fun k hk r w' h1 h2 => by
    have ef := RS_f23 hR hk
    have hok := RS_ok hR hk
    have hle : ¬ f_13 w 5 ≤ Int32.ofNat k := fun q => absurd ((RS_le hR (by omega)).mp q) (by omega)
    refine sg_123_2 (d := d + 1) hS rs_5 _ _ ⟨fun q => absurd q hle, fun _ => ⟨RS_out hR hk, _, by rw [ef]; exact E124 hS hok (y := c) (by omega), fun q => ?_, fun q => h2 ?_⟩⟩
    · rw [i_s]
      refine h1 (decide_eq_false fun h => ?_)
      rw [if_pos h] at q
      exact absurd q (by decide)
    · refine decide_eq_true (Classical.byContradiction fun h => ?_)
      rw [if_neg h] at q
      exact absurd rfl q) (sg_123_2 (d := d + 1) hS rs_5 _ _ ⟨fun _ => ⟨rfl, rfl⟩, fun q => absurd ((RS_le hR (by omega)).mpr (Nat.le_refl _)) q⟩) G.length 0 (by omega) rfl
  have e : hitV (fun _ => 1) 0 (fstI (fun r => decide (c ∈ r.2.drop 1)) G) = bI (stB c G) := by
    unfold stB; rw [← fstI_any]; cases fstI (fun r => decide (c ∈ r.2.drop 1)) G <;> rfl
  rw [e] at this
  exact gk_E_i rfl rfl (sg_123_0 (d := d + 1) hS rs_5 _ this)
/-- nameLetter -/
theorem E125 (hS : gk_Sh rr w) (hR : RS w 5 G) (hs : srt G) {c : Nat} (hc : c < 22) (hst : stB c G = true) : ∃ w', gk_E (d + 3) 125 [.ref 12, .ref 6, .int (Int32.ofNat c)] w (.inl (some (.int (bI (nmO c G).isSome)))) w' ∧ gk_Sh rr w' ∧ Fr [6, 13] [(5, 1), (12, 1)] w w' ∧ ∀ K, nmO c G = some K → RS w' 5 K ∧ srt K := by
  have h60 := RS_60 hR
  have e2 := E117 (d := d) hS hR
  cases hf : frV G with
  | none =>
    rw [hf] at e2
    have eF : nmO c G = none := by unfold nmO; rw [if_neg (by rw [hst]; decide), hf]
    rw [eF]
    exact ⟨w, gk_E_i rfl rfl (sg_125_0 (d := d + 1) hS rs_5 _ ⟨_, e2, fun q => absurd rfl q, fun _ => ⟨rfl, rfl⟩⟩), hS, Fr_refl, fun K e => by cases e⟩
  | some v =>
    rw [hf] at e2
    obtain ⟨hv16, -⟩ := fsN_some hf
    have eF : nmO c G = puA (nmL c v (G.drop 0)) [] := by unfold nmO; rw [if_neg (by rw [hst]; decide), hf]; rfl
    obtain ⟨w1, e3, s1, f1, B1⟩ := E20 (d := d + 2) hS rs_12 rs_5 (by decide) hR
    obtain ⟨w2, e4, s2, f2, R2⟩ := E17 (d := d + 2) s1 rs_5
    have B2 : RS w2 12 G := RS_Fr B1 f2 (by decide) (by decide)
    obtain ⟨r, w3, ⟨s3, f3, hr, hK⟩, g3⟩ := up_exit (d := d + 3) (mi := 125) (pc := 27) G.length (fun k (_ : List Rl) => [some (.ref 12), some (.ref (5 + 1)), some (.int (Int32.ofNat c)), some (.int (Int32.ofNat v)), some (.int (Int32.ofNat k))])
      (fun k H w3 => gk_Sh rr w3 ∧ Fr [6] [(5, 1)] w2 w3 ∧ RS w3 5 H ∧ srt H ∧ puA (nmL c v (G.drop k)) H = nmO c G)
      (fun r w' => gk_Sh rr w' ∧ Fr [6] [(5, 1)] w2 w' ∧ r = .inl (some (.int (bI (nmO c G).isSome))) ∧ ∀ K, nmO c G = some K → RS w' 5 K ∧ srt K)
      (fun k H w3 hk hI => by
        obtain ⟨s3, f3, R3, t3, p3⟩ := hI
        have B3 : RS w3 12 G := RS_Fr B2 f3 (by decide) (by decide)
        have ef := RS_f23 B3 hk
        have hok := RS_ok B3 hk
        have hle : ¬ f_13 w3 12 ≤ Int32.ofNat k := fun q => absurd ((RS_le B3 (by omega)).mp q) (by omega)
        have hq : okR (G[k].1, rnB c v G[k].2) := by
          have := rnB_ok hok (old := c) (new := v) (by omega) G[k].2.length
          rwa [List.take_of_length_le (Nat.le_refl _)] at this
        have e126 := E126 (d := d) (w := w3) s3 hok (old := c) (new := v) (by omega) (by omega)
        obtain ⟨w4, e4, s4, f4, k4⟩ := E94 (d := d + 1) s3 rs_5 R3 t3 (okO_some hq)
        rw [nmL_s hk] at p3
        simp only [puA] at p3
        cases hp : putR (some (G[k].1, rnB c v G[k].2)) H with
        | none =>
          rw [hp] at e4
          simp only [hp] at p3
          right
          refine ⟨_, w4, ⟨s4, Fr_trans f3 f4, rfl, fun K e => by rw [← p3] at e; cases e⟩, sg_125_27 (d := d + 1) s3 rs_5 _ _ _ ⟨fun q => absurd q hle, fun _ => ⟨RS_out B3 hk, _, by rw [ef]; exact e126, 0, w4, e4, s4, fun q => absurd rfl q, fun _ => ⟨?_, rfl⟩⟩⟩⟩
          rw [← p3]; rfl
        | some H2 =>
          rw [hp] at e4
          simp only [hp] at p3
          obtain ⟨R4, t4⟩ := k4 H2 hp
          left
          exact ⟨H2, w4, ⟨s4, Fr_trans f3 f4, R4, t4, p3⟩, fun r w' h => sg_125_27 (d := d + 1) s3 rs_5 _ _ _ ⟨fun q => absurd q hle, fun _ => ⟨RS_out B3 hk, _, by rw [ef]; exact e126, 1, w4, e4, s4, fun _ => by rw [i_s]; exact h, fun q => absurd q (by decide)⟩⟩⟩)
      (fun H w3 hI => by
        obtain ⟨s3, f3, R3, t3, p3⟩ := hI
        have B3 : RS w3 12 G := RS_Fr B2 f3 (by decide) (by decide)
        rw [List.drop_eq_nil_of_le (Nat.le_refl _)] at p3
        have hq : okR (v, [c]) := ⟨hv16, by simp, fun s hs => by rw [List.mem_singleton.mp hs]; exact hc⟩
        obtain ⟨w4, e4, s4, f4, k4⟩ := E94 (d := d + 1) s3 rs_5 R3 t3 (okO_some hq)
        have e91 : f_91 (f_90 (Int32.ofNat v)) (Int32.ofNat c) = pko (some (v, [c])) := by
          rw [f_90_pk hv16, f_91_pk ⟨hv16, by simp, by simp⟩ hc, if_pos (by simp)]; rfl
        have p4 : putR (some (v, [c])) H = nmO c G := by
          rw [← p3]
          simp only [nmL, List.map_nil, List.nil_append, puA]
          cases putR (some (v, [c])) H <;> rfl
        rw [p4] at e4
        refine ⟨_, w4, ⟨s4, Fr_trans f3 f4, rfl, fun K e => k4 K (p4.trans e)⟩, sg_125_27 (d := d + 1) s3 rs_5 _ _ _ ⟨fun _ => ⟨_, w4, by rw [e91]; exact e4, s4, bI_b _, rfl, rfl⟩, fun q => absurd ((RS_le B3 (by omega)).mpr (Nat.le_refl _)) q⟩⟩)
      G.length 0 [] w2 (by omega) ⟨s2, Fr_refl, R2, List.Pairwise.nil, eF.symm⟩
    subst hr
    exact ⟨w3, gk_E_i rfl rfl (sg_125_0 (d := d + 1) hS rs_5 _ ⟨_, e2, fun _ => ⟨w1, e3, s1, w2, e4, s2, g3⟩, fun q => absurd q (oI_ne (by omega))⟩), s3, Fr_trans (Fr_mono f1 (by simp) (by simp)) (Fr_trans (Fr_mono f2 (by simp) (by simp)) (Fr_mono f3 (by simp) (by simp))), hK⟩
def lts : List Nat := [16, 17, 18, 19, 20, 21]
theorem lts_s {k : Nat} (hk : k < 6) : lts.drop k = (16 + k) :: lts.drop (k + 1) := by
  match k, hk with
  | 0, _ => rfl
  | 1, _ => rfl
  | 2, _ => rfl
  | 3, _ => rfl
  | 4, _ => rfl
  | 5, _ => rfl
/-- nameInnerLetters -/
theorem E122 (hS : gk_Sh rr w) (hR : RS w 5 G) (hs : srt G) : ∃ w', gk_E (d + 4) 122 [.ref 12, .ref 6] w (.inl (some (.int (bI (nmC lts G).isSome)))) w' ∧ gk_Sh rr w' ∧ Fr [6, 13] [(5, 1), (12, 1)] w w' ∧ ∀ K, nmC lts G = some K → RS w' 5 K ∧ srt K := by
  obtain ⟨r, w3, ⟨s3, f3, hr, hK⟩, g3⟩ := up_exit (d := d + 4) (mi := 122) (pc := 2) 6 (fun k (_ : List Rl) => [some (.ref 12), some (.ref (5 + 1)), some (.int (Int32.ofNat k)), none])
    (fun k H w3 => gk_Sh rr w3 ∧ Fr [6, 13] [(5, 1), (12, 1)] w w3 ∧ RS w3 5 H ∧ srt H ∧ nmC (lts.drop k) H = nmC lts G)
    (fun r w' => gk_Sh rr w' ∧ Fr [6, 13] [(5, 1), (12, 1)] w w' ∧ r = .inl (some (.int (bI (nmC lts G).isSome))) ∧ ∀ K, nmC lts G = some K → RS w' 5 K ∧ srt K)
    (fun k H w3 hk hI => by
      obtain ⟨s3, f3, R3, t3, p3⟩ := hI
      have n6 : ¬ (6 : Int32) ≤ Int32.ofNat k := fun q => absurd ((i_le (a := 6) (by omega) (by omega)).mp q) (by omega)
      have e16 : (16 : Int32) + Int32.ofNat k = Int32.ofNat (16 + k) := by rw [show (16 : Int32) = Int32.ofNat 16 from rfl, i_add]
      have e1 := E123 (d := d + 1) s3 R3 (c := 16 + k) (by omega)
      rw [lts_s hk] at p3
      simp only [nmC] at p3
      cases hst : stB (16 + k) H with
      | false =>
        rw [hst] at e1
        have eN : nmO (16 + k) H = some H := by unfold nmO; rw [if_pos hst]
        simp only [eN] at p3
        left
        exact ⟨H, w3, ⟨s3, f3, R3, t3, p3⟩, fun r w' h => sg_122_2 (d := d + 3) s3 rs_5 _ ⟨fun q => absurd q n6, fun _ => ⟨_, by rw [e16]; exact e1, fun _ => by rw [i_s]; exact h, fun q => absurd rfl q⟩⟩⟩
      | true =>
        rw [hst] at e1
        obtain ⟨w4, e4, s4, f4, k4⟩ := E125 (d := d) s3 R3 t3 (c := 16 + k) (by omega) hst
        cases hn : nmO (16 + k) H with
        | none =>
          rw [hn] at e4
          simp only [hn] at p3
          right
          refine ⟨_, w4, ⟨s4, Fr_trans f3 f4, rfl, fun K e => by rw [← p3] at e; cases e⟩, sg_122_2 (d := d + 3) s3 rs_5 _ ⟨fun q => absurd q n6, fun _ => ⟨_, by rw [e16]; exact e1, fun q => absurd q (by decide), fun _ => ⟨0, w4, by rw [e16]; exact e4, s4, fun q => absurd rfl q, fun _ => ⟨?_, rfl⟩⟩⟩⟩⟩
          rw [← p3]; rfl
        | some H2 =>
          rw [hn] at e4
          simp only [hn] at p3
          obtain ⟨R4, t4⟩ := k4 H2 hn
          left
          exact ⟨H2, w4, ⟨s4, Fr_trans f3 f4, R4, t4, p3⟩, fun r w' h => sg_122_2 (d := d + 3) s3 rs_5 _ ⟨fun q => absurd q n6, fun _ => ⟨_, by rw [e16]; exact e1, fun q => absurd q (by decide), fun _ => ⟨1, w4, by rw [e16]; exact e4, s4, fun _ => by rw [i_s]; exact h, fun q => absurd q (by decide)⟩⟩⟩⟩)
    (fun H w3 hI => by
      obtain ⟨s3, f3, R3, t3, p3⟩ := hI
      have p4 : some H = nmC lts G := p3
      refine ⟨_, w3, ⟨s3, f3, rfl, fun K e => by rw [← p4] at e; cases e; exact ⟨R3, t3⟩⟩, sg_122_2 (d := d + 3) s3 rs_5 _ ⟨fun _ => ⟨?_, rfl⟩, fun q => absurd (by decide) q⟩⟩
      rw [← p4]; rfl)
    6 0 G w (by omega) ⟨hS, Fr_refl, hR, hs, rfl⟩
  subst hr
  exact ⟨w3, gk_E_i rfl rfl (sg_122_0 (d := d + 3) hS rs_5 g3), s3, f3, hK⟩
/-- standsBehind -/
theorem E189 (hS : gk_Sh rr w) (hR : RM w 4 28 G) {c : Nat} (hc : c < 22) : gk_E (d + 1) 189 [.ref 27, .int (Int32.ofNat c)] w (.inl (some (.int (bI (stB c G))))) w := by
  have h60 := RM_60 hR
  obtain ⟨b, w1, ⟨rfl, hb⟩, g1⟩ := up_loop (α := Bool) (d := d + 1) (mi := 189) (pc := 4) G.length (fun k b => [some (.ref 27), some (.int (Int32.ofNat c)), some (.int (bI b)), some (.int (Int32.ofNat k)), none])
    (fun k b w1 => w1 = w ∧ b = stB c (G.take k))
    (fun k b w1 hk hI => by
      obtain ⟨rfl, hb⟩ := hI
      have hok := RM_ok hR hk
      have h10 := hok.2.1
      have hle : ¬ w_i w1 26 4 ≤ Int32.ofNat k := fun q => absurd ((RM_le hR (by omega)).mp q) (by omega)
      have hrow : Go (d + 1) 189 15 [some (.ref 27), some (.int (Int32.ofNat c)), some (.int (bI b)), some (.int (Int32.ofNat k)), some (.int (Int32.ofNat 1))] w1 4 [some (.ref 27), some (.int (Int32.ofNat c)), some (.int (bI (b || decide (c ∈ G[k].2.drop 1)))), some (.int (Int32.ofNat (k + 1))), none] w1 := by
        by_cases h0 : G[k].2.length = 0
        · have : decide (c ∈ G[k].2.drop 1) = false := by
            rw [List.drop_eq_nil_of_le (by omega)]; simp
          rw [this, Bool.or_false]
          exact fun r w' h => sg_189_15 hS _ _ _ _ ⟨RM_out hR hk, fun _ => by rw [i_s]; exact h, fun q => absurd ((RM_sz hR hk (by omega)).mpr (by omega)) q⟩
        · obtain ⟨c1, w2, ⟨rfl, hj0, hc1⟩, g2⟩ := up_loop (α := Bool) (d := d + 1) (mi := 189) (pc := 15) G[k].2.length (fun j b => [some (.ref 27), some (.int (Int32.ofNat c)), some (.int (bI b)), some (.int (Int32.ofNat k)), some (.int (Int32.ofNat j))])
            (fun j c1 w2 => w2 = w1 ∧ 0 < j ∧ c1 = (b || decide (c ∈ (G[k].2.take j).drop 1)))
            (fun j c1 w2 hj hI => by
              obtain ⟨rfl, hj0, hc1⟩ := hI
              have ea := RM_at hR hk hj
              have hsy := hok.2.2 _ (List.getElem_mem hj)
              have hsz : ¬ (w_a w2 29).getD (Int32.ofNat k).toNatClampNeg 0 ≤ Int32.ofNat j := fun q => absurd ((RM_sz hR hk (by omega)).mp q) (by omega)
              have et : decide (c ∈ (G[k].2.take (j + 1)).drop 1) = (decide (c ∈ (G[k].2.take j).drop 1) || decide (G[k].2[j] = c)) := by
                rw [List.take_succ_eq_append_getElem hj, List.drop_append_of_le_length (by simp; omega)]
                simp only [List.mem_append, List.mem_singleton, Bool.decide_or]
                congr 1
                exact decide_eq_decide.mpr ⟨fun h => h.symm, fun h => h.symm⟩
              refine ⟨c1 || decide (G[k].2[j] = c), w2, ⟨rfl, by omega, by rw [hc1, et, Bool.or_assoc]⟩, fun r w' h => ?_⟩
              cases c1 with
              | true => exact sg_189_15 hS _ _ _ _ ⟨RM_out hR hk, fun q => absurd q hsz, fun _ => ⟨fun _ => by rw [i_s]; exact h, fun q => absurd q (by decide)⟩⟩
              | false =>
                refine sg_189_15 hS _ _ _ _ ⟨RM_out hR hk, fun q => absurd q hsz, fun _ => ⟨fun q => absurd rfl q, fun _ => ⟨RM_io hR hk (by omega), fun q => ?_, fun q => ?_⟩⟩⟩
                · rw [ea, i_eq (by omega) (by omega)] at q
                  rw [decide_eq_false q] at h
                  rw [i_s]; exact h
                · rw [ea, i_eq (by omega) (by omega)] at q
                  rw [decide_eq_true q] at h
                  rw [i_s]; exact h) (G[k].2.length - 1) 1 b w1 (by omega) ⟨rfl, by omega, by
              have : (G[k].2.take 1).drop 1 = [] := List.drop_eq_nil_of_le (by simp; omega)
              rw [this]; simp⟩
          rw [List.take_of_length_le (Nat.le_refl _)] at hc1
          subst hc1
          exact Go_trans g2 fun r w' h => sg_189_15 hS _ _ _ _ ⟨RM_out hR hk, fun _ => by rw [i_s]; exact h, fun q => absurd ((RM_sz hR hk (by omega)).mpr (Nat.le_refl _)) q⟩
      refine ⟨b || decide (c ∈ G[k].2.drop 1), w1, ⟨rfl, ?_⟩, fun r w' h => sg_189_4 hS _ _ _ ⟨fun q => absurd q hle, fun _ => hrow r w' h⟩⟩
      rw [hb]
      unfold stB
      rw [List.take_succ_eq_append_getElem hk, List.any_append]
      simp) G.length 0 false w (by omega) ⟨rfl, by simp [stB]⟩
  rw [List.take_of_length_le (Nat.le_refl _)] at hb
  subst hb
  exact gk_E_i rfl rfl (sg_189_0 hS _ (g1 _ _ (sg_189_4 hS _ _ _ ⟨fun _ => ⟨bI_b _, rfl, rfl⟩, fun q => absurd ((RM_le hR (by omega)).mpr (Nat.le_refl _)) q⟩)))
/-- the letter is renamed in the row 'right' -/
theorem E188_r (hS : gk_Sh rr w) {R : List Nat} (hG : RG w R) (h10 : R.length ≤ 10) {c v : Nat} (hc : c < 22) (hv : v < 16) {x3 : Int32} : ∃ w1, gk_Sh rr w1 ∧ Fr [34] [] w w1 ∧ RG w1 (rnB c v R) ∧ ∃ m : Int32, w_i w1 26 12 ≤ m ∧ Go (d + 1) 188 60 [some (.ref 27), some (.int (Int32.ofNat c)), some (.int (Int32.ofNat v)), some (.int x3), some (.int (Int32.ofNat 1))] w 60 [some (.ref 27), some (.int (Int32.ofNat c)), some (.int (Int32.ofNat v)), some (.int x3), some (.int m)] w1 := by
  by_cases h0 : R.length = 0
  · have e : rnB c v R = R := by
      rw [List.length_eq_zero_iff] at h0; subst h0; rfl
    rw [e]
    refine ⟨w, hS, Fr_refl, hG, _, ?_, Go_refl⟩
    rw [hG.1, h0]; decide
  · obtain ⟨-, w1, ⟨s1, f1, hk0, h1⟩, g1⟩ := up_loop (α := Unit) (d := d + 1) (mi := 188) (pc := 60) R.length (fun k _ => [some (.ref 27), some (.int (Int32.ofNat c)), some (.int (Int32.ofNat v)), some (.int x3), some (.int (Int32.ofNat k))])
      (fun k _ w1 => gk_Sh rr w1 ∧ Fr [34] [] w w1 ∧ 0 < k ∧ ∀ j s, R[j]? = some s → (w_a w1 34).getD j 0 = Int32.ofNat (if 0 < j ∧ j < k ∧ s = c then v else s))
      (fun k _ w1 hk hI => by
        obtain ⟨s1, f1, hk0, h1⟩ := hI
        have hl := (w_int s1 ly_34).2
        have e12 : w_i w1 26 12 = Int32.ofNat R.length := by rw [Fr_i f1 (by simp)]; exact hG.1
        have hsz : ¬ w_i w1 26 12 ≤ Int32.ofNat k := by
          rw [e12]; intro q
          exact absurd ((i_le (by omega) (by omega)).mp q) (by omega)
        have hs := hG.2.2.1 _ (List.getElem_mem hk)
        have ek : (w_a w1 34).getD (Int32.ofNat k).toNatClampNeg 0 = Int32.ofNat R[k] := by
          rw [i_nat (by omega), h1 k _ (List.getElem?_eq_getElem hk), if_neg (by omega)]
        have o24 : gk_out (Int32.ofNat k) 24 = false := o_ok (by omega) (by omega)
        by_cases e : R[k] = c
        · refine ⟨(), _, ⟨sh_as s1 ly_34 k (Int32.ofNat v), Fr_trans f1 (Fr_sa (by decide) _), by omega, fun j s hj => ?_⟩, fun r w' h => sg_188_60 s1 _ _ _ _ ⟨fun q => absurd q hsz, fun _ => ⟨o24, fun q => ?_, fun _ => ⟨o24, ?_⟩⟩⟩⟩
          · rw [w_a_same s1 ly_34, getD_set32 _ (by omega)]
            by_cases ej : j = k
            · subst ej
              rw [List.getElem?_eq_getElem hk] at hj
              have : s = c := by rw [← Option.some.inj hj]; exact e
              rw [if_pos rfl, if_pos ⟨hk0, by omega, this⟩]
            · rw [if_neg ej, h1 j s hj]
              have : (0 < j ∧ j < k ∧ s = c) ↔ (0 < j ∧ j < k + 1 ∧ s = c) := ⟨fun q => ⟨q.1, by omega, q.2.2⟩, fun q => ⟨q.1, by omega, q.2.2⟩⟩
              simp only [this]
          · rw [ek, e] at q; exact absurd rfl q
          · rw [i_nat (by omega), i_s]; exact h
        · refine ⟨(), w1, ⟨s1, f1, by omega, fun j s hj => ?_⟩, fun r w' h => sg_188_60 s1 _ _ _ _ ⟨fun q => absurd q hsz, fun _ => ⟨o24, fun _ => by rw [i_s]; exact h, fun q => ?_⟩⟩⟩
          · rw [h1 j s hj]
            by_cases ej : j = k
            · subst ej
              rw [List.getElem?_eq_getElem hk] at hj
              have : ¬ s = c := by rw [← Option.some.inj hj]; exact e
              rw [if_neg (fun q => this q.2.2), if_neg (fun q => this q.2.2)]
            · have : (0 < j ∧ j < k ∧ s = c) ↔ (0 < j ∧ j < k + 1 ∧ s = c) := ⟨fun q => ⟨q.1, by omega, q.2.2⟩, fun q => ⟨q.1, by omega, q.2.2⟩⟩
              simp only [this]
          · rw [ek, i_eq (by omega) (by omega)] at q
            exact absurd q e) (R.length - 1) 1 () w (by omega) ⟨hS, Fr_refl, by omega, fun j s hj => by
        rw [if_neg (by omega)]; exact hG.2.2.2 j s hj⟩
    have e12 : w_i w1 26 12 = Int32.ofNat R.length := by rw [Fr_i f1 (by simp)]; exact hG.1
    refine ⟨w1, s1, f1, ⟨by rw [rnB_len]; exact e12, by rw [rnB_len]; omega, fun s hs => ?_, fun j s hj => ?_⟩, Int32.ofNat R.length, ?_, g1⟩
    · rcases rnB_mem hs with h | h
      · exact hG.2.2.1 s h
      · omega
    · have hjl : j < R.length := by
        have := (List.getElem?_eq_some_iff.mp hj).1
        rwa [rnB_len] at this
      rw [h1 j _ (List.getElem?_eq_getElem hjl)]
      congr 1
      unfold rnB at hj
      by_cases hj0 : 0 < j
      · rw [List.getElem?_append_right (by simp; omega)] at hj
        have el : (R.take 1).length = 1 := by simp; omega
        rw [el, List.getElem?_map, List.getElem?_drop, show 1 + (j - 1) = j by omega, List.getElem?_eq_getElem hjl] at hj
        simp only [Option.map_some, Option.some.injEq] at hj
        rw [← hj]
        by_cases e : R[j] = c
        · rw [if_pos ⟨hj0, hjl, e⟩, if_pos e]
        · rw [if_neg (fun q => e q.2.2), if_neg e]
      · obtain rfl : j = 0 := by omega
        rw [List.getElem?_append_left (by simp; omega), List.getElem?_take_of_lt (by omega), List.getElem?_eq_getElem hjl] at hj
        rw [if_neg (by omega)]; exact Option.some.inj hj
    · rw [e12]; exact (i_le (by omega) (by omega)).mpr (Nat.le_refl _)
theorem E188_l {c v : Nat} (hc : c < 22) (hv : v < 16) {F : Option (List Rl)} : ∀ (m k : Nat) (w : gk_Wd) (p : Bool × List Rl), gk_Sh rr w → RM w 8 31 G → MA w p → ((p.1 = false → puA (nmL c v (G.drop k)) p.2 = F) ∧ (p.1 = true → F = none)) → k + m = G.length →
    ∃ (p1 : Bool × List Rl) (w1 : gk_Wd), gk_Sh rr w1 ∧ Fr [28, 29, 30, 34] [(26, 4), (26, 12), (26, 14)] w w1 ∧ MA w1 p1 ∧ ((p1.1 = false → some p1.2 = F) ∧ (p1.1 = true → F = none)) ∧ gk_W none (d + 3) 188 42 [some (.ref 27), some (.int (Int32.ofNat c)), some (.int (Int32.ofNat v)), some (.int (Int32.ofNat k)), none] [] w (.inl none) w1
  | 0, k, w, p, hS, hO, hM, hP, hk => by
    have h60 := RM_60 hO
    rw [List.drop_eq_nil_of_le (by omega)] at hP
    have s1 := sh_as (sh_si hS ly_26 (k := 12) rfl 1) ly_34 0 (Int32.ofNat c)
    have l34 := (w_int (sh_si hS ly_26 (k := 12) rfl 1) ly_34).2
    have f1 : Fr [34] [(26, 12)] w (w_sa (w_si w 26 12 1) 34 ((w_a (w_si w 26 12 1) 34).set 0 (Int32.ofNat c))) := Fr_trans (Fr_si (by decide) _) (Fr_sa (by decide) _)
    have G1 : RG (w_sa (w_si w 26 12 1) 34 ((w_a (w_si w 26 12 1) 34).set 0 (Int32.ofNat c))) [c] := by
      refine ⟨by rw [w_i_sa, w_i_same hS ly_26 rfl]; rfl, by simp, fun s hs => by rw [List.mem_singleton.mp hs]; exact hc, fun j s hj => ?_⟩
      have hj1 := (List.getElem?_eq_some_iff.mp hj).1
      simp at hj1
      subst hj1
      rw [w_a_same (sh_si hS ly_26 (k := 12) rfl 1) ly_34, getD_set32 _ (by omega), if_pos rfl]
      simp at hj
      rw [hj]
    obtain ⟨w2, u, e2, s2, f2, M2, -⟩ := E149 (d := d) s1 (MA_Fr hM f1 (by decide) (by decide)) G1 hv
    have em : mkR v [c] = some (v, [c]) := by unfold mkR; rw [if_pos (by simp)]
    rw [em] at M2
    refine ⟨_, w2, s2, Fr_trans (Fr_mono f1 (by simp) (by simp)) (Fr_mono f2 (by simp) (by simp)), M2, addA_puA hP, sg_188_42 (d := d + 2) hS _ _ _ ⟨fun _ => ⟨u, w2, e2, s2, rfl, rfl⟩, fun q => absurd ((RM_le hO (by omega)).mpr (by omega)) q⟩⟩
  | m + 1, k, w, p, hS, hO, hM, hP, hk => by
    have h60 := RM_60 hO
    have hkl : k < G.length := by omega
    have hle : ¬ w_i w 26 8 ≤ Int32.ofNat k := fun q => absurd ((RM_le hO (by omega)).mp q) (by omega)
    have hok := RM_ok hO hkl
    rw [nmL_s hkl] at hP
    obtain ⟨w1, e1, s1, f1, R1⟩ := E171_0 (d := d + 1) hS hO hkl
    obtain ⟨w2, s2, f2, R2, mm, hmm, g2⟩ := E188_r (d := d + 2) s1 R1 hok.2.1 hc hv (x3 := Int32.ofNat k)
    have f12 : Fr [34] [(26, 12)] w w2 := Fr_trans f1 (Fr_mono f2 (by simp) (by simp))
    have O2 := RM_Fr hO f12 (by decide) (by decide)
    obtain ⟨w3, u, e3, s3, f3, M3, -⟩ := E149 (d := d) s2 (MA_Fr hM f12 (by decide) (by decide)) R2 hok.1
    have em : mkR G[k].1 (rnB c v G[k].2) = some (G[k].1, rnB c v G[k].2) := by
      unfold mkR; rw [if_pos (by rw [rnB_len]; exact hok.2.1)]
    rw [em] at M3
    have el : (w_a w2 31).getD (Int32.ofNat k).toNatClampNeg 0 = Int32.ofNat G[k].1 := RM_left O2 hkl
    have f13 : Fr [28, 29, 30, 34] [(26, 4), (26, 12), (26, 14)] w w3 := Fr_trans (Fr_mono f12 (by simp) (by simp)) (Fr_mono f3 (by simp) (by simp))
    obtain ⟨p4, w4, s4, f4, M4, P4, g4⟩ := E188_l hc hv m (k + 1) w3 _ s3 (RM_Fr hO f13 (by decide) (by decide)) M3 (addA_puA hP) (by omega)
    refine ⟨p4, w4, s4, Fr_trans f13 f4, M4, P4, sg_188_42 (d := d + 2) hS _ _ _ ⟨fun q => absurd q hle, fun _ => ⟨1, w1, e1, s1, g2 _ _ (sg_188_60 (d := d + 2) s2 _ _ _ _ ⟨fun _ => ⟨RM_out hO hkl, u, w3, by rw [el]; exact e3, s3, by rw [i_s]; exact g4⟩, fun q => absurd hmm q⟩)⟩⟩⟩
/-- name, when a limit was passed before -/
theorem E188_t (hS : gk_Sh rr w) (hM : MA w (true, G)) (x : Int32) : gk_E (d + 1) 188 [.ref 27, .int x] w (.inl none) w := by
  have h14 : ¬ w_i w 26 14 = 0 := by
    rw [hM.2.2]; exact (by decide : ¬ bI true = 0)
  exact gk_E_i rfl rfl (sg_188_0 hS _ ⟨fun _ => ⟨rfl, rfl⟩, fun q => absurd q h14⟩)
/-- name -/
theorem E188 (hS : gk_Sh rr w) (hM : MA w (false, G)) {c : Nat} (hc : c < 22) : ∃ w', gk_E (d + 3) 188 [.ref 27, .int (Int32.ofNat c)] w (.inl none) w' ∧ gk_Sh rr w' ∧ Fr [28, 29, 30, 31, 32, 33, 34] [(26, 4), (26, 8), (26, 12), (26, 14)] w w' ∧ (∀ K, nmO c G = some K → MA w' (false, K)) ∧ (nmO c G = none → ∃ K, MA w' (true, K)) := by
  have hR : RM w 4 28 G := hM.1
  have h14 : w_i w 26 14 = 0 := hM.2.2
  have h60 := RM_60 hR
  have e1 := E189 (d := d + 1) hS hR hc
  cases hst : stB c G with
  | false =>
    rw [hst] at e1
    have eN : nmO c G = some G := by unfold nmO; rw [if_pos hst]
    exact ⟨w, gk_E_i rfl rfl (sg_188_0 (d := d + 2) hS _ ⟨fun q => absurd h14 q, fun _ => ⟨_, e1, fun q => absurd rfl q, fun _ => ⟨rfl, rfl⟩⟩⟩), hS, Fr_refl, fun K e => by rw [eN] at e; cases e; exact hM, fun e => by rw [eN] at e; cases e⟩
  | true =>
    rw [hst] at e1
    have n1 : ¬ bI true = 0 := by decide
    have e2 := E186 (d := d + 1) hS hR
    cases hf : frV G with
    | none =>
      rw [hf] at e2
      have eN : nmO c G = none := by unfold nmO; rw [if_neg (by rw [hst]; decide), hf]
      exact ⟨w_si w 26 14 1, gk_E_i rfl rfl (sg_188_0 (d := d + 2) hS _ ⟨fun q => absurd h14 q, fun _ => ⟨_, e1, fun _ => ⟨_, e2, fun q => absurd q (by decide), fun _ => ⟨rfl, rfl⟩⟩, fun q => absurd q n1⟩⟩), sh_si hS ly_26 (k := 14) rfl _, Fr_si (by decide) _, fun K e => (by rw [eN] at e; cases e), fun _ => ⟨G, RM_congr hR (w_i_ne (by decide)) w_a_si w_a_si w_a_si, hM.2.1, w_i_same hS ly_26 rfl⟩⟩
    | some v =>
      rw [hf] at e2
      obtain ⟨hv16, -⟩ := fsN_some hf
      have eF : nmO c G = puA (nmL c v (G.drop 0)) [] := by unfold nmO; rw [if_neg (by rw [hst]; decide), hf]; rfl
      obtain ⟨w1, e3, s1, f1, O1⟩ := E148 (d := d + 2) hS hR
      have s2 := sh_si s1 ly_26 (k := 4) rfl 0
      have f2 : Fr [] [(26, 4)] w1 (w_si w1 26 4 0) := Fr_si (by decide) _
      have M2 : MA (w_si w1 26 4 0) (false, []) := ⟨⟨w_i_same s1 ly_26 rfl, by simp, by simp, by simp⟩, List.Pairwise.nil, by rw [w_i_ne (by decide), Fr_i f1 (by decide), h14]; rfl⟩
      obtain ⟨p3, w3, s3, f3, M3, P3, g3⟩ := E188_l (d := d) (G := G) hc hv16 (F := nmO c G) G.length 0 _ _ s2 (RM_Fr O1 f2 (by decide) (by decide)) M2 ⟨fun _ => eF.symm, fun e => by cases e⟩ (by omega)
      have hE : gk_E (d + 3) 188 [.ref 27, .int (Int32.ofNat c)] w (.inl none) w3 := gk_E_i rfl rfl (sg_188_0 (d := d + 2) hS _ ⟨fun q => absurd h14 q, fun _ => ⟨_, e1, fun _ => ⟨_, e2, fun _ => ⟨w1, e3, s1, g3⟩, fun q => absurd (i_nlt.mpr (i_neg (by omega))) q⟩, fun q => absurd q n1⟩⟩)
      have hF : Fr [28, 29, 30, 31, 32, 33, 34] [(26, 4), (26, 8), (26, 12), (26, 14)] w w3 := Fr_trans (Fr_mono f1 (by simp) (by simp)) (Fr_trans (Fr_mono f2 (by simp) (by simp)) (Fr_mono f3 (by simp) (by simp)))
      obtain ⟨ob, H⟩ := p3
      refine ⟨w3, hE, s3, hF, fun K e => ?_, fun e => ?_⟩
      · cases ob with
        | true => rw [P3.2 rfl] at e; cases e
        | false =>
          have := P3.1 rfl
          rw [e] at this
          cases this
          exact M3
      · cases ob with
        | true => exact ⟨_, M3⟩
        | false =>
          have := P3.1 rfl
          rw [e] at this
          cases this
end NM
