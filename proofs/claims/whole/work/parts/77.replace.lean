/-! part 51: replacing the first symbol of a rule -/
def puA : List (Option Rl) → List Rl → Option (List Rl)
  | [], G => some G
  | o :: os, G => match putR o G with
    | none => none
    | some H => puA os H
def rpL (r : Rl) (G : List Rl) : List (Option Rl) := (G.filter fun g => decide (g.1 = r.2.headD 0)).map fun g => mkR r.1 (g.2 ++ r.2.drop 1)
def rpO (G : List Rl) (i : Nat) : Option (List Rl) := puA (rpL (G.getD i (0, [])) (G.eraseIdx i)) (G.eraseIdx i)
def rpF (G : List Rl) (c i : Nat) : Option (List Rl) := if c < 300 then rpO G i else none
theorem rpL_hit {r : Rl} {G : List Rl} {k : Nat} (hk : k < G.length) (h : G[k].1 = r.2.headD 0) : rpL r (G.drop k) = mkR r.1 (G[k].2 ++ r.2.drop 1) :: rpL r (G.drop (k + 1)) := by
  unfold rpL
  rw [List.drop_eq_getElem_cons hk]
  simp only [List.filter_cons, h, decide_true, if_true, List.map_cons]
theorem rpL_miss {r : Rl} {G : List Rl} {k : Nat} (hk : k < G.length) (h : ¬ G[k].1 = r.2.headD 0) : rpL r (G.drop k) = rpL r (G.drop (k + 1)) := by
  unfold rpL
  rw [List.drop_eq_getElem_cons hk]
  simp only [List.filter_cons, h, decide_false, if_false, Bool.false_eq_true]
theorem getD_R {G : List Rl} {i : Nat} (hi : i < G.length) : G.getD i (0, []) = G[i] := by
  rw [List.getD_eq_getElem?_getD, List.getElem?_eq_getElem hi]; rfl
theorem mkR_ok {x : Nat} {R : List Nat} (hx : x < 16) (hR : ∀ s ∈ R, s < 22) : okO (mkR x R) := by
  intro r hr
  unfold mkR at hr
  split at hr
  · rename_i h
    cases hr
    exact ⟨hx, h, hR⟩
  · cases hr
theorem mkR_fold {x : Nat} {s t : List Nat} (h : s.length ≤ 10) : t.foldl apO (some (x, s)) = mkR x (s ++ t) := by
  rw [apO_fold t x s h]
  unfold mkR
  rw [List.length_append]
section RP
variable {d : Nat} {rr : List gk_S} {w : gk_Wd} {G : List Rl}
/-- replaceLead -/
theorem E112 (hS : gk_Sh rr w) (hR : RS w 5 G) (hs : srt G) {c : Nat} (hc : w_i w 11 2 = Int32.ofNat c) (hc3 : c ≤ 300) {i : Nat} (hi : i < G.length) (h0 : 0 < G[i].2.length) :
    ∃ w', gk_E (d + 3) 112 [.ref 12, .ref 6, .int (Int32.ofNat i)] w (.inl (some (.int (bI (rpF G c i).isSome)))) w' ∧ gk_Sh rr w' ∧ Fr [6, 13] [(5, 1), (12, 1), (11, 2)] w w' ∧ w_i w' 11 2 = Int32.ofNat (c + 1) ∧ ∀ K, rpF G c i = some K → RS w' 5 K ∧ srt K := by
  have s1 := sh_si hS ly_11 (k := 2) rfl (w_i w 11 2 + 1)
  have e1 : w_i (w_si w 11 2 (w_i w 11 2 + 1)) 11 2 = Int32.ofNat (c + 1) := by rw [w_i_same hS ly_11 rfl, hc, i_s]
  have f1 : Fr [6, 13] [(5, 1), (12, 1), (11, 2)] w (w_si w 11 2 (w_i w 11 2 + 1)) := Fr_si (by decide) _
  by_cases h3 : c < 300
  · have R1 : RS (w_si w 11 2 (w_i w 11 2 + 1)) 5 G := RS_Fr (A := []) (F := [(11, 2)]) hR (Fr_si (by simp) _) (by simp) (by decide)
    obtain ⟨w2, e2, s2, f2, R2⟩ := E14 (d := d + 2) s1 rs_5 R1 hi
    obtain ⟨w3, e3, s3, f3, B3⟩ := E20 (d := d + 2) s2 rs_12 rs_5 (by decide) R2
    have R3 : RS w3 5 (G.eraseIdx i) := RS_Fr R2 f3 (by decide) (by decide)
    have hok := RS_ok hR hi
    have h60 := RS_60 B3
    have eF : rpF G c i = puA (rpL G[i] ((G.eraseIdx i).drop 0)) (G.eraseIdx i) := by
      unfold rpF rpO; rw [if_pos h3, getD_R hi]; rfl
    have e23 : f_23 (w_si w 11 2 (w_i w 11 2 + 1)) 5 (Int32.ofNat i) = pk G[i] := RS_f23 R1 hi
    have h22 := hd_22 hok h0
    obtain ⟨v, w4, ⟨s4, f4, hv, hK⟩, g4⟩ := up_exit (d := d + 3) (mi := 112) (pc := 51) (G.eraseIdx i).length (fun k (_ : List Rl) => [some (.ref 12), some (.ref (5 + 1)), none, some (.long (pk G[i])), none, some (.int (Int32.ofNat (G[i].2.headD 0))), some (.int (Int32.ofNat k)), none, none, none, none])
      (fun k H w1 => gk_Sh rr w1 ∧ Fr [6] [(5, 1)] w3 w1 ∧ RS w1 5 H ∧ srt H ∧ puA (rpL G[i] ((G.eraseIdx i).drop k)) H = rpF G c i)
      (fun v w' => gk_Sh rr w' ∧ Fr [6] [(5, 1)] w3 w' ∧ v = .inl (some (.int (bI (rpF G c i).isSome))) ∧ ∀ K, rpF G c i = some K → RS w' 5 K ∧ srt K)
      (fun k H w4 hk hI => by
        obtain ⟨s4, f4, R4, t4, p4⟩ := hI
        have B4 : RS w4 12 (G.eraseIdx i) := RS_Fr B3 f4 (by decide) (by decide)
        have ef := RS_f23 B4 hk
        have hgk := RS_ok B4 hk
        have h16 := hgk.1
        have hle : ¬ f_13 w4 12 ≤ Int32.ofNat k := fun q => absurd ((RS_le B4 (by omega)).mp q) (by omega)
        by_cases hm : (G.eraseIdx i)[k].1 = G[i].2.headD 0
        · rw [rpL_hit hk hm] at p4
          have hq : okR (G[i].1, (G.eraseIdx i)[k].2) := ⟨hok.1, hgk.2.1, hgk.2.2⟩
          have e113 := E113 (d := d) (w := w4) s4 hok (fun e => by rw [e] at h0; simp at h0) hq
          rw [mkR_fold hgk.2.1] at e113
          have e105 : f_105 (f_23 w4 12 (Int32.ofNat k)) (f_25 (pk G[i])) = pk (G[i].1, (G.eraseIdx i)[k].2) := by rw [ef, f_25_pk hok, f_105_pk hgk hok.1]
          have hoO : okO (mkR G[i].1 ((G.eraseIdx i)[k].2 ++ G[i].2.drop 1)) := mkR_ok hok.1 fun s hs => by
            rcases List.mem_append.mp hs with h | h
            · exact hgk.2.2 s h
            · exact hok.2.2 s (List.mem_of_mem_drop h)
          obtain ⟨w5, e5, s5, f5, p5⟩ := E94 (d := d + 1) s4 rs_5 R4 t4 hoO
          have q1 : f_25 (f_23 w4 12 (Int32.ofNat k)) = Int32.ofNat (G[i].2.headD 0) := by rw [ef, f_25_pk hgk, hm]
          cases hp : putR (mkR G[i].1 ((G.eraseIdx i)[k].2 ++ G[i].2.drop 1)) H with
          | none =>
            rw [hp] at e5
            simp only [puA, hp] at p4
            right
            refine ⟨_, w5, ⟨s5, Fr_trans f4 f5, rfl, fun K e => by rw [← p4] at e; cases e⟩, sg_112_51 (d := d + 1) s4 rs_5 _ _ _ ⟨fun q => absurd q hle, fun _ => ⟨RS_out B4 hk, fun q => absurd q1 q, fun _ => ⟨_, by rw [e105]; exact e113, 0, w5, e5, s5, fun q => absurd rfl q, fun _ => ⟨?_, rfl⟩⟩⟩⟩⟩
            rw [← p4]; rfl
          | some H2 =>
            rw [hp] at e5
            simp only [puA, hp] at p4
            obtain ⟨R5, t5⟩ := p5 H2 hp
            left
            exact ⟨H2, w5, ⟨s5, Fr_trans f4 f5, R5, t5, p4⟩, fun v w' h => sg_112_51 (d := d + 1) s4 rs_5 _ _ _ ⟨fun q => absurd q hle, fun _ => ⟨RS_out B4 hk, fun q => absurd q1 q, fun _ => ⟨_, by rw [e105]; exact e113, 1, w5, e5, s5, fun _ => by rw [i_s]; exact h, fun q => absurd q (by decide)⟩⟩⟩⟩
        · rw [rpL_miss hk hm] at p4
          left
          refine ⟨H, w4, ⟨s4, f4, R4, t4, p4⟩, fun v w' h => sg_112_51 (d := d + 1) s4 rs_5 _ _ _ ⟨fun q => absurd q hle, fun _ => ⟨RS_out B4 hk, fun _ => by rw [i_s]; exact h, fun q => ?_⟩⟩⟩
          rw [ef, f_25_pk hgk, i_eq (by omega) (by omega)] at q
          exact absurd q hm)
      (fun H w4 hI => by
        obtain ⟨s4, f4, R4, t4, p4⟩ := hI
        have B4 : RS w4 12 (G.eraseIdx i) := RS_Fr B3 f4 (by decide) (by decide)
        rw [List.drop_eq_nil_of_le (Nat.le_refl _)] at p4
        have p5 : some H = rpF G c i := p4
        refine ⟨_, w4, ⟨s4, f4, rfl, fun K e => ?_⟩, sg_112_51 (d := d + 1) s4 rs_5 _ _ _ ⟨fun _ => ⟨?_, rfl⟩, fun q => absurd ((RS_le B4 (by omega)).mpr (Nat.le_refl _)) q⟩⟩
        · rw [← p5] at e; cases e; exact ⟨R4, t4⟩
        · rw [← p5]; rfl)
      (G.eraseIdx i).length 0 (G.eraseIdx i) w3 (by omega) ⟨s3, Fr_refl, R3, srt_erase hs i, eF.symm⟩
    subst hv
    refine ⟨w4, gk_E_i rfl rfl (sg_112_0 (d := d + 1) hS rs_5 _ ⟨fun _ => ⟨RS_out R1 hi, w2, e2, s2, w3, e3, s3, ?_⟩, fun q => ?_⟩), s4, Fr_trans f1 (Fr_trans (Fr_mono f2 (by simp) (by simp)) (Fr_trans (Fr_mono f3 (by simp) (by simp)) (Fr_mono f4 (by simp) (by simp)))), ?_, hK⟩
    · rw [e23, f_26_hd hok h0]; exact g4
    · rw [e1] at q
      exact absurd ((i_le (b := 300) (by omega) (by omega)).mpr (by omega)) q
    · rw [Fr_i f4 (by decide), Fr_i f3 (by decide), Fr_i f2 (by decide), e1]
  · have eF : rpF G c i = none := by unfold rpF; rw [if_neg h3]
    rw [eF]
    refine ⟨_, gk_E_i rfl rfl (sg_112_0 (d := d + 1) hS rs_5 _ ⟨fun q => ?_, fun _ => ⟨rfl, rfl⟩⟩), s1, f1, e1, fun K e => by cases e⟩
    rw [e1] at q
    exact absurd ((i_le (b := 300) (by omega) (by omega)).mp q) (by omega)
/-- the row 'tail' -/
def TL (w : gk_Wd) (t : List Nat) : Prop := ∀ k s, t[k]? = some s → (w_a w 51).getD k 0 = Int32.ofNat s
theorem addA_puA {p : Bool × List Rl} {o : Option Rl} {os : List (Option Rl)} {F : Option (List Rl)} (h : (p.1 = false → puA (o :: os) p.2 = F) ∧ (p.1 = true → F = none)) : ((addA p o).1 = false → puA os (addA p o).2 = F) ∧ ((addA p o).1 = true → F = none) := by
  obtain ⟨b, H⟩ := p
  cases b with
  | true => exact ⟨fun q => (by cases q), fun _ => h.2 rfl⟩
  | false =>
    have h1 := h.1 rfl
    simp only [puA] at h1
    unfold addA
    rw [if_neg (by simp)]
    cases hp : putR o H with
    | none =>
      simp only [hp] at h1
      exact ⟨fun q => (by cases q), fun _ => h1.symm⟩
    | some H' =>
      simp only [hp] at h1
      exact ⟨fun _ => h1, fun q => by cases q⟩
/-- a rule's own symbols, then the tail, then add -/
theorem E183_a (hS : gk_Sh rr w) {R t : List Nat} (hG : RG w R) (hT : TL w t) (ht : ∀ s ∈ t, s < 22) (hl : R.length ≤ 10) (htl : t.length ≤ 9) {x : Nat} (hx : x < 16) {x3 : Int32} {i : Nat} {p : Bool × List Rl} (hM : MA w p) : ∃ w1, gk_Sh rr w1 ∧ Fr [28, 29, 30, 34] [(26, 4), (26, 12), (26, 14)] w w1 ∧ MA w1 (addA p (mkR x (R ++ t))) ∧ Go (d + 3) 183 142 [some (.ref 27), none, some (.int (Int32.ofNat x)), some (.int x3), some (.int (Int32.ofNat t.length)), some (.int (Int32.ofNat i)), some (.int (Int32.ofNat 0))] w 101 [some (.ref 27), none, some (.int (Int32.ofNat x)), some (.int x3), some (.int (Int32.ofNat t.length)), some (.int (Int32.ofNat (i + 1))), none] w1 := by
  obtain ⟨-, w1, ⟨s1, f1, G1⟩, g1⟩ := up_loop (α := Unit) (d := d + 3) (mi := 183) (pc := 142) t.length (fun k _ => [some (.ref 27), none, some (.int (Int32.ofNat x)), some (.int x3), some (.int (Int32.ofNat t.length)), some (.int (Int32.ofNat i)), some (.int (Int32.ofNat k))])
    (fun k _ w1 => gk_Sh rr w1 ∧ Fr [34] [(26, 12)] w w1 ∧ RG w1 (R ++ t.take k))
    (fun k _ w1 hk hI => by
      obtain ⟨s1, f1, G1⟩ := hI
      have hlen : (R ++ t.take k).length = R.length + k := by simp; omega
      have ht51 : (w_a w1 51).getD (Int32.ofNat k).toNatClampNeg 0 = Int32.ofNat t[k] := by
        rw [i_nat (by omega), Fr_a f1 (by decide)]; exact hT k _ (List.getElem?_eq_getElem hk)
      have G2 := RG_push s1 G1 (by omega) (ht _ (List.getElem_mem hk))
      have e12 := G1.1
      refine ⟨(), _, ⟨sh_si (sh_as s1 ly_34 (R ++ t.take k).length (Int32.ofNat t[k])) ly_26 (k := 12) rfl (Int32.ofNat ((R ++ t.take k).length + 1)), Fr_trans f1 (Fr_trans (Fr_sa (by decide) _) (Fr_si (by decide) _)), ?_⟩, fun r w' h => sg_183_142 (d := d + 2) s1 _ _ _ _ _ ⟨fun q => absurd ((i_le (by omega) (by omega)).mp q) (by omega), fun _ => ⟨o_ok (by omega) (by omega), by rw [e12]; exact o_ok (by omega) (by omega), ?_⟩⟩⟩
      · rw [List.take_succ_eq_append_getElem hk, ← List.append_assoc]; exact G2
      · rw [w_i_sa, e12, i_nat (by omega), ht51, i_s, i_s]; exact h) t.length 0 () w (by omega) ⟨hS, Fr_refl, by simpa using hG⟩
  rw [List.take_of_length_le (Nat.le_refl _)] at G1
  obtain ⟨w2, v, e2, s2, f2, M2, -⟩ := E149 (d := d) s1 (MA_Fr hM f1 (by decide) (by decide)) G1 hx
  exact ⟨w2, s2, Fr_trans (Fr_mono f1 (by simp) (by simp)) (Fr_mono f2 (by simp) (by simp)), M2, Go_trans g1 fun r w' h => sg_183_142 (d := d + 2) s1 _ _ _ _ _ ⟨fun _ => ⟨v, w2, e2, s2, by rw [i_s]; exact h⟩, fun q => absurd ((i_le (by omega) (by omega)).mpr (Nat.le_refl _)) q⟩⟩
theorem E183_l {r0 : Rl} (hr0 : okR r0) (h0 : 0 < r0.2.length) {G1 : List Rl} {F : Option (List Rl)} : ∀ (m k : Nat) (w : gk_Wd) (p : Bool × List Rl), gk_Sh rr w → RM w 8 31 G1 → TL w (r0.2.drop 1) → MA w p → ((p.1 = false → puA (rpL r0 (G1.drop k)) p.2 = F) ∧ (p.1 = true → F = none)) → k + m = G1.length →
    ∃ (p1 : Bool × List Rl) (w1 : gk_Wd), gk_Sh rr w1 ∧ Fr [28, 29, 30, 34] [(26, 4), (26, 12), (26, 14)] w w1 ∧ MA w1 p1 ∧ ((p1.1 = false → some p1.2 = F) ∧ (p1.1 = true → F = none)) ∧ gk_W none (d + 3) 183 101 [some (.ref 27), none, some (.int (Int32.ofNat r0.1)), some (.int (Int32.ofNat (r0.2.headD 0))), some (.int (Int32.ofNat (r0.2.drop 1).length)), some (.int (Int32.ofNat k)), none] [] w (.inl none) w1
  | 0, k, w, p, hS, hO, hT, hM, hP, hk => by
    have h60 := RM_60 hO
    rw [List.drop_eq_nil_of_le (by omega)] at hP
    exact ⟨p, w, hS, Fr_refl, hM, hP, sg_183_101 (d := d + 2) hS _ _ _ _ ⟨fun _ => ⟨rfl, rfl⟩, fun q => absurd ((RM_le hO (by omega)).mpr (by omega)) q⟩⟩
  | m + 1, k, w, p, hS, hO, hT, hM, hP, hk => by
    have h60 := RM_60 hO
    have hkl : k < G1.length := by omega
    have hle : ¬ w_i w 26 8 ≤ Int32.ofNat k := fun q => absurd ((RM_le hO (by omega)).mp q) (by omega)
    have hok := RM_ok hO hkl
    have h16 := hok.1
    have h22 := hd_22 hr0 h0
    have h10 := hr0.2.1
    have el : (w_a w 31).getD (Int32.ofNat k).toNatClampNeg 0 = Int32.ofNat G1[k].1 := RM_left hO hkl
    obtain ⟨ob, H⟩ := p
    cases ob with
    | true =>
      have h14 : ¬ w_i w 26 14 = 0 := by
        rw [hM.2.2]; exact (by decide : ¬ bI true = 0)
      exact ⟨(true, H), w, hS, Fr_refl, hM, ⟨fun q => (by cases q), hP.2⟩, sg_183_101 (d := d + 2) hS _ _ _ _ ⟨fun _ => ⟨rfl, rfl⟩, fun _ => ⟨fun _ => ⟨rfl, rfl⟩, fun q => absurd q h14⟩⟩⟩
    | false =>
      have h14 : w_i w 26 14 = 0 := hM.2.2
      by_cases hm : G1[k].1 = r0.2.headD 0
      · rw [rpL_hit hkl hm] at hP
        obtain ⟨w1, e1, s1, f1, R1⟩ := E171_0 (d := d + 1) hS hO hkl
        obtain ⟨w2, s2, f2, M2, g2⟩ := E183_a (d := d) s1 R1 (t := r0.2.drop 1) (fun j s hj => by rw [Fr_a f1 (by decide)]; exact hT j s hj) (fun s hs => hr0.2.2 s (List.mem_of_mem_drop hs)) hok.2.1 (by simp; omega) hr0.1 (x3 := Int32.ofNat (r0.2.headD 0)) (i := k) (MA_Fr hM f1 (by decide) (by decide))
        have f12 : Fr [28, 29, 30, 34] [(26, 4), (26, 12), (26, 14)] w w2 := Fr_trans (Fr_mono f1 (by simp) (by simp)) f2
        obtain ⟨p3, w3, s3, f3, M3, P3, g3⟩ := E183_l hr0 h0 m (k + 1) w2 _ s2 (RM_Fr hO f12 (by decide) (by decide)) (fun j s hj => by rw [Fr_a f12 (by decide)]; exact hT j s hj) M2 (addA_puA hP) (by omega)
        refine ⟨p3, w3, s3, Fr_trans f12 f3, M3, P3, sg_183_101 (d := d + 2) hS _ _ _ _ ⟨fun q => absurd q hle, fun _ => ⟨fun q => absurd h14 q, fun _ => ⟨RM_out hO hkl, fun _ => ⟨1, w1, e1, s1, g2 _ _ g3⟩, fun q => ?_⟩⟩⟩⟩
        rw [el, hm] at q
        exact absurd rfl q
      · rw [rpL_miss hkl hm] at hP
        obtain ⟨p3, w3, s3, f3, M3, P3, g3⟩ := E183_l hr0 h0 m (k + 1) w (false, H) hS hO hT hM hP (by omega)
        refine ⟨p3, w3, s3, f3, M3, P3, sg_183_101 (d := d + 2) hS _ _ _ _ ⟨fun q => absurd q hle, fun _ => ⟨fun q => absurd h14 q, fun _ => ⟨RM_out hO hkl, fun q => ?_, fun _ => by rw [i_s]; exact g3⟩⟩⟩⟩
        rw [el, i_eq (by omega) (by omega)] at q
        exact absurd q hm
/-- replace -/
theorem E183 (hS : gk_Sh rr w) (hM : MA w (false, G)) {c : Nat} (hc : w_i w 26 15 = Int32.ofNat c) (hc3 : c ≤ 300) {i : Nat} (hi : i < G.length) (h0 : 0 < G[i].2.length) :
    ∃ w', gk_E (d + 3) 183 [.ref 27, .int (Int32.ofNat i)] w (.inl none) w' ∧ gk_Sh rr w' ∧ Fr [28, 29, 30, 31, 32, 33, 34, 51] [(26, 4), (26, 8), (26, 12), (26, 14), (26, 15)] w w' ∧ w_i w' 26 15 = Int32.ofNat (c + 1) ∧ (∀ K, rpF G c i = some K → MA w' (false, K)) ∧ (rpF G c i = none → ∃ K, MA w' (true, K)) := by
  have hR : RM w 4 28 G := hM.1
  have hok := RM_ok hR hi
  have h10 := hok.2.1
  have h60 := RM_60 hR
  have h14 : w_i w 26 14 = 0 := hM.2.2
  have s1 := sh_si hS ly_26 (k := 15) rfl (w_i w 26 15 + 1)
  have e1 : w_i (w_si w 26 15 (w_i w 26 15 + 1)) 26 15 = Int32.ofNat (c + 1) := by rw [w_i_same hS ly_26 rfl, hc, i_s]
  have f1 : Fr [] [(26, 15)] w (w_si w 26 15 (w_i w 26 15 + 1)) := Fr_si (by decide) _
  by_cases h3 : c < 300
  · generalize hw1 : w_si w 26 15 (w_i w 26 15 + 1) = w1 at s1 e1 f1
    have M1 : MA w1 (false, G) := MA_Fr hM f1 (by decide) (by decide)
    have R1 : RM w1 4 28 G := M1.1
    have eF : rpF G c i = puA (rpL G[i] ((G.eraseIdx i).drop 0)) (G.eraseIdx i) := by
      unfold rpF rpO; rw [if_pos h3, getD_R hi]; rfl
    have el := RM_left R1 hi
    have es := RM_size R1 hi
    have ehd := RM_hd R1 hi h0
    have erest : Int32.ofNat G[i].2.length - 1 = Int32.ofNat (G[i].2.drop 1).length := by
      rw [show (1 : Int32) = Int32.ofNat 1 from rfl, i_sub (by omega), List.length_drop]
    have hdl : (G[i].2.drop 1).length = G[i].2.length - 1 := List.length_drop
    obtain ⟨-, w2, ⟨s2, f2, T2⟩, g2⟩ := up_loop (α := Unit) (d := d + 3) (mi := 183) (pc := 60) (G[i].2.drop 1).length (fun k _ => [some (.ref 27), some (.int (Int32.ofNat i)), some (.int (Int32.ofNat G[i].1)), some (.int (Int32.ofNat (G[i].2.headD 0))), some (.int (Int32.ofNat (G[i].2.drop 1).length)), some (.int (Int32.ofNat k)), none])
      (fun k _ w2 => gk_Sh rr w2 ∧ Fr [51] [] w1 w2 ∧ ∀ j s, j < k → (G[i].2.drop 1)[j]? = some s → (w_a w2 51).getD j 0 = Int32.ofNat s)
      (fun k _ w2 hk hI => by
        obtain ⟨s2, f2, T2⟩ := hI
        have hl := (w_int s2 ly_51).2
        have R2 : RM w2 4 28 G := RM_Fr R1 f2 (by decide) (by simp)
        have ea : f_151 w2 (Int32.ofNat i) (1 + Int32.ofNat k) = Int32.ofNat (G[i].2.drop 1)[k] := by
          rw [show (1 : Int32) + Int32.ofNat k = Int32.ofNat (1 + k) from by rw [show (1 : Int32) = Int32.ofNat 1 from rfl, i_add], RM_at R2 hi (by omega), List.getElem_drop]
        refine ⟨(), _, ⟨sh_as s2 ly_51 k (Int32.ofNat (G[i].2.drop 1)[k]), Fr_trans f2 (Fr_sa (by decide) _), fun j s hj hs => ?_⟩, fun r w' h => sg_183_60 (d := d + 2) s2 _ _ _ _ _ ⟨fun q => absurd ((i_le (by omega) (by omega)).mp q) (by omega), fun _ => ⟨?_, o_ok (by omega) (by omega), ?_⟩⟩⟩
        · rw [w_a_same s2 ly_51, getD_set32 _ (by omega)]
          by_cases e : j = k
          · subst e
            rw [if_pos rfl]
            rw [List.getElem?_eq_getElem hk] at hs
            rw [Option.some.inj hs]
          · rw [if_neg e]; exact T2 j s (by omega) hs
        · rw [show (1 : Int32) + Int32.ofNat k = Int32.ofNat (1 + k) from by rw [show (1 : Int32) = Int32.ofNat 1 from rfl, i_add]]
          exact RM_io R2 hi (by omega)
        · rw [ea, i_nat (by omega), i_s]; exact h) (G[i].2.drop 1).length 0 () w1 (by omega) ⟨s1, Fr_refl, fun j s hj => by omega⟩
    have R2 : RM w2 4 28 G := RM_Fr R1 f2 (by decide) (by simp)
    obtain ⟨w3, e3, s3, f3, R3⟩ := E155 (d := d + 1) s2 R2 hi
    obtain ⟨w4, e4, s4, f4, O4⟩ := E148 (d := d + 2) s3 R3
    have f04 : Fr [28, 29, 30, 31, 32, 33, 34, 51] [(26, 4), (26, 8), (26, 12), (26, 14), (26, 15)] w w4 := Fr_trans (Fr_mono f1 (by simp) (by simp)) (Fr_trans (Fr_mono f2 (by simp) (by simp)) (Fr_trans (Fr_mono f3 (by simp) (by simp)) (Fr_mono f4 (by simp) (by simp))))
    have M4 : MA w4 (false, G.eraseIdx i) := ⟨RM_Fr R3 f4 (by decide) (by decide), srt_erase hM.2.1 i, by rw [Fr_i f4 (by decide), Fr_i f3 (by decide), Fr_i f2 (by simp), Fr_i f1 (by decide), h14]; rfl⟩
    obtain ⟨p5, w5, s5, f5, M5, P5, g5⟩ := E183_l (d := d) hok h0 (G1 := G.eraseIdx i) (F := rpF G c i) (G.eraseIdx i).length 0 w4 _ s4 O4 (fun j s hj => by
      rw [Fr_a f4 (by decide), Fr_a f3 (by decide)]
      exact T2 j s (List.getElem?_eq_some_iff.mp hj).1 hj) M4 ⟨fun _ => eF.symm, fun q => by cases q⟩ (by omega)
    refine ⟨w5, gk_E_i rfl rfl (sg_183_0 (d := d + 2) hS _ ⟨fun _ => ⟨fun _ => ⟨RM_out hR hi, RM_io hR hi (k := 0) (by omega), RM_out hR hi, ?_⟩, fun q => ?_⟩, fun q => ?_⟩), s5, Fr_trans f04 (Fr_mono f5 (by simp) (by simp)), ?_, fun K e => ?_, fun e => ?_⟩
    · rw [hw1, el, es, ehd, erest]
      refine g2 _ _ (sg_183_60 (d := d + 2) s2 _ _ _ _ _ ⟨fun _ => ⟨w3, e3, s3, w4, e4, s4, g5⟩, fun q => absurd ((i_le (by omega) (by omega)).mpr (Nat.le_refl _)) q⟩)
    · rw [hw1, Fr_i f1 (by decide)] at q
      exact absurd h14 q
    · rw [hw1, e1] at q
      exact absurd ((i_le (b := 300) (by omega) (by omega)).mpr (by omega)) q
    · rw [Fr_i f5 (by decide), Fr_i f4 (by decide), Fr_i f3 (by decide), Fr_i f2 (by simp), e1]
    · obtain ⟨ob, H⟩ := p5
      cases ob with
      | true => rw [P5.2 rfl] at e; cases e
      | false =>
        have := P5.1 rfl
        rw [e] at this
        cases this
        exact M5
    · obtain ⟨ob, H⟩ := p5
      cases ob with
      | true => exact ⟨_, M5⟩
      | false =>
        have := P5.1 rfl
        rw [e] at this
        cases this
  · have eF : rpF G c i = none := by unfold rpF; rw [if_neg h3]
    have n3 : ¬ w_i (w_si w 26 15 (w_i w 26 15 + 1)) 26 15 ≤ 300 := by
      rw [e1]; intro q
      exact absurd ((i_le (b := 300) (by omega) (by omega)).mp q) (by omega)
    have s2 := sh_si s1 ly_26 (k := 14) rfl 1
    have e14 : w_i (w_si (w_si w 26 15 (w_i w 26 15 + 1)) 26 14 1) 26 14 = 1 := w_i_same s1 ly_26 rfl
    refine ⟨_, gk_E_i rfl rfl (sg_183_0 (d := d + 2) hS _ ⟨fun q => absurd q n3, fun _ => ⟨fun q => ?_, fun _ => ⟨rfl, rfl⟩⟩⟩), s2, Fr_trans (Fr_mono f1 (by simp) (by simp)) (Fr_si (by decide) _), ?_, fun K e => ?_, fun _ => ⟨G, RM_congr hR ?_ ?_ ?_ ?_, hM.2.1, e14⟩⟩
    · rw [e14] at q; exact absurd q (by decide)
    · rw [w_i_ne (by decide), e1]
    · rw [eF] at e; cases e
    · rw [w_i_ne (by decide), w_i_ne (by decide)]
    · rw [w_a_si, w_a_si]
    · rw [w_a_si, w_a_si]
    · rw [w_a_si, w_a_si]
end RP
