/-! part 45: cleanEmpty of the reference -/
theorem bt_ofNat (n i : Nat) (h : i < 32) : bt (Int32.ofNat n) i = n.testBit i := by
  unfold bt
  rw [Int32.toBitVec_ofNat', BitVec.getLsbD_ofNat]
  simp [h]
theorem lvO_dlt {N : Nat → Bool} {x : Int32} : ∀ {s : List Nat} {k : Nat} {t : List Nat}, lvO N x k s = some t → dlt N s t
  | [], k, t, h => by
    simp only [lvO, Option.some.injEq] at h
    exact h.symm
  | y :: s, k, t, h => by
    simp only [lvO] at h
    split at h
    · split at h
      · rename_i c
        exact Or.inr ⟨c.1, c.2, lvO_dlt h⟩
      · cases h
    · obtain ⟨u, hu, rfl⟩ := Option.map_eq_some_iff.mp h
      exact Or.inl ⟨u, rfl, lvO_dlt hu⟩
theorem dlt_lvO {N : Nat → Bool} : ∀ {s t : List Nat} (k : Nat), dlt N s t → k + s.length ≤ 31 → ∃ b, b < 2 ^ s.length ∧ ∀ y, y < 2 ^ k → lvO N (Int32.ofNat (2 ^ k * b + y)) k s = some t
  | [], t, k, h, _ => ⟨0, by simp, fun y _ => by
    have e : t = [] := h
    rw [e]; rfl⟩
  | x :: s, t, k, h, hk => by
    simp only [List.length_cons] at hk
    rcases h with ⟨u, rfl, h⟩ | ⟨h1, h2, h⟩
    · obtain ⟨b, hb, hy⟩ := dlt_lvO (k + 1) h (by omega)
      refine ⟨2 * b, by simp only [List.length_cons, Nat.pow_succ]; omega, fun y hy2 => ?_⟩
      have e : 2 ^ k * (2 * b) + y = 2 ^ (k + 1) * b + y := by rw [Nat.pow_succ, Nat.mul_assoc]
      have hbit : bt (Int32.ofNat (2 ^ k * (2 * b) + y)) k = false := by
        rw [bt_ofNat _ _ (by omega), Nat.testBit_two_pow_mul_add _ hy2]
        simp
      simp only [lvO]
      rw [if_neg (by rw [hbit]; decide), e, hy y (by rw [Nat.pow_succ]; omega)]
      rfl
    · obtain ⟨b, hb, hy⟩ := dlt_lvO (k + 1) h (by omega)
      refine ⟨2 * b + 1, by simp only [List.length_cons, Nat.pow_succ]; omega, fun y hy2 => ?_⟩
      have e : 2 ^ k * (2 * b + 1) + y = 2 ^ (k + 1) * b + (2 ^ k + y) := by rw [Nat.pow_succ, Nat.mul_assoc, Nat.mul_add]; omega
      have hbit : bt (Int32.ofNat (2 ^ k * (2 * b + 1) + y)) k = true := by
        rw [bt_ofNat _ _ (by omega), Nat.testBit_two_pow_mul_add _ hy2]
        simp
      simp only [lvO]
      rw [if_pos hbit, if_pos ⟨h1, h2⟩, e, hy (2 ^ k + y) (by rw [Nat.pow_succ]; omega)]
theorem sh_pow : ∀ n : Fin 11, (1 : Int32) <<< (Int32.ofNat n.1 &&& 31) = Int32.ofNat (2 ^ n.1) := by decide
/-- all that was put in so far is there, and nothing but what may be; or there is too much of it -/
def PI (C : Rl → Prop) (D : Rl → Prop) (p : Bool × List Rl) : Prop := (p.1 = false → (∀ r ∈ p.2, C r) ∧ ∀ q, D q → q ∈ p.2) ∧ (p.1 = true → big C)
theorem PI_add {C D : Rl → Prop} {p : Bool × List Rl} (hs : srt p.2) (h : PI C D p) {q : Rl} (hq : C q) : PI C (fun x => D x ∨ x = q) (addA p (some q)) := by
  obtain ⟨b, H⟩ := p
  cases b with
  | true => exact ⟨fun e => (by cases e), fun _ => h.2 rfl⟩
  | false =>
    obtain ⟨h1, h2⟩ := h.1 rfl
    by_cases hm : q ∈ H
    · have e : addA (false, H) (some q) = (false, H) := by simp [addA, putR, hm]
      rw [e]
      refine ⟨fun _ => ⟨h1, fun x hx => ?_⟩, fun q => by cases q⟩
      rcases hx with hx | rfl
      · exact h2 x hx
      · exact hm
    · by_cases hl : H.length < 60
      · have e : addA (false, H) (some q) = (false, insR q H) := by simp [addA, putR, hm, hl]
        rw [e]
        refine ⟨fun _ => ⟨fun r hr => ?_, fun x hx => ?_⟩, fun q => by cases q⟩
        · rcases (insR_mem _ _ _).mp hr with rfl | hr
          · exact hq
          · exact h1 r hr
        · rcases hx with hx | rfl
          · exact (insR_mem _ _ _).mpr (Or.inr (h2 x hx))
          · exact (insR_mem _ _ _).mpr (Or.inl rfl)
      · have e : addA (false, H) (some q) = (true, H) := by simp [addA, putR, hm, hl]
        rw [e]
        exact ⟨fun q => (by cases q), fun _ => big_of hs h1 hl hm hq⟩
theorem PI_mono {C D D' : Rl → Prop} {p : Bool × List Rl} (h : PI C D p) (hd : ∀ x, D' x → D x) : PI C D' p := ⟨fun e => ⟨(h.1 e).1, fun q hq => (h.1 e).2 q (hd q hq)⟩, h.2⟩
section ME
variable {d : Nat} {rr : List gk_S} {w : gk_Wd} {G : List Rl}
theorem nlM_congr {w' : gk_Wd} (h : w_a w' 38 = w_a w 38) : nlM w' = nlM w := by
  funext v
  simp only [nlM]
  rw [h]
theorem MA_Fr {w' : gk_Wd} {p : Bool × List Rl} (h : MA w p) {A : List Nat} {F : List (Nat × Nat)} (f : Fr A F w w') (a1 : 28 ∉ A ∧ 29 ∉ A ∧ 30 ∉ A) (b1 : (26, 4) ∉ F ∧ (26, 14) ∉ F) : MA w' p := MA_congr h (Fr_i f b1.2) (Fr_i f b1.1) (Fr_a f a1.1) (Fr_a f a1.2.1) (Fr_a f a1.2.2)
theorem RM_Fr {w' : gk_Wd} {c l : Nat} (h : RM w c l G) {A : List Nat} {F : List (Nat × Nat)} (f : Fr A F w w') (a1 : l ∉ A ∧ l + 1 ∉ A ∧ l + 2 ∉ A) (b1 : (26, c) ∉ F) : RM w' c l G := RM_congr h (Fr_i f b1) (Fr_a f a1.1) (Fr_a f a1.2.1) (Fr_a f a1.2.2)
theorem E168_b (hS : gk_Sh rr w) {N : Nat → Bool} (hO : RM w 8 31 G) (hN : nlM w = N) {i : Nat} (hi : i < G.length) {p : Bool × List Rl} (hM : MA w p) {D : Rl → Prop} (hP : PI (cE N G) D p) (hD : D G[i]) :
    ∃ (p1 : Bool × List Rl) (w1 : gk_Wd), (gk_Sh rr w1 ∧ Fr [28, 29, 30, 34] [(26, 4), (26, 12), (26, 14)] w w1 ∧ MA w1 p1 ∧ PI (cE N G) (fun x => D x ∨ (x.1 = G[i].1 ∧ dlt N G[i].2 x.2)) p1) ∧ Go (d + 3) 168 27 [some (.ref 27), some (.int (Int32.ofNat i)), some (.int (Int32.ofNat 1))] w 10 [some (.ref 27), some (.int (Int32.ofNat (i + 1))), none] w1 := by
  have hok := RM_ok hO hi
  have h10 := hok.2.1
  have h16 := hok.1
  have h60 := RM_60 hO
  have hpow : 2 ^ G[i].2.length ≤ 2 ^ 10 := Nat.pow_le_pow_right (by omega) h10
  have hpos : 1 ≤ 2 ^ G[i].2.length := Nat.one_le_two_pow
  have esh : ∀ w1 : gk_Wd, RM w1 8 31 G → (1 : Int32) <<< (((w_a w1 32).getD (Int32.ofNat i).toNatClampNeg 0) &&& 31) = Int32.ofNat (2 ^ G[i].2.length) := fun w1 h1 => by
    rw [RM_size h1 hi]; exact sh_pow ⟨_, by omega⟩
  obtain ⟨p1, w1, ⟨s1, f1, M1, P1⟩, g1⟩ := up_loop (d := d + 3) (mi := 168) (pc := 27) (2 ^ G[i].2.length) (fun b (_ : Bool × List Rl) => [some (.ref 27), some (.int (Int32.ofNat i)), some (.int (Int32.ofNat b))])
    (fun b p1 w1 => gk_Sh rr w1 ∧ Fr [28, 29, 30, 34] [(26, 4), (26, 12), (26, 14)] w w1 ∧ MA w1 p1 ∧ PI (cE N G) (fun x => D x ∨ ∃ b', b' < b ∧ x.1 = G[i].1 ∧ lvO N (Int32.ofNat b') 0 G[i].2 = some x.2) p1)
    (fun b p1 w1 hb hI => by
      obtain ⟨s1, f1, M1, P1⟩ := hI
      have O1 : RM w1 8 31 G := RM_Fr hO f1 (by decide) (by decide)
      have N1 : nlM w1 = N := by rw [nlM_congr (Fr_a f1 (by decide)), hN]
      obtain ⟨w2, e2, s2, f2, a2⟩ := E171 (d := d + 1) s1 O1 hi (Int32.ofNat b)
      rw [N1] at e2 a2
      have hlt : ¬ (1 : Int32) <<< (((w_a w1 32).getD (Int32.ofNat i).toNatClampNeg 0) &&& 31) ≤ Int32.ofNat b := by
        rw [esh w1 O1]; intro q
        exact absurd ((i_le (by omega) (by omega)).mp q) (by omega)
      have M2 : MA w2 p1 := MA_Fr M1 f2 (by decide) (by decide)
      cases ho : lvO N (Int32.ofNat b) 0 G[i].2 with
      | none =>
        rw [ho] at e2
        refine ⟨p1, w2, ⟨s2, Fr_trans f1 (Fr_mono f2 (by simp) (by simp)), M2, PI_mono P1 fun x hx => ?_⟩, fun r w' h => sg_168_27 (d := d + 2) s1 _ _ ⟨RM_out O1 hi, fun q => absurd q hlt, fun _ => ⟨_, w2, e2, s2, fun _ => ?_, fun q => absurd rfl q⟩⟩⟩
        · rcases hx with hx | ⟨b', hb', e1, e3⟩
          · exact Or.inl hx
          · by_cases hbb : b' = b
            · subst hbb; rw [ho] at e3; cases e3
            · exact Or.inr ⟨b', by omega, e1, e3⟩
        · rw [i_s]; exact h
      | some t =>
        rw [ho] at e2
        have G2 := a2 t ho
        have hdl := lvO_dlt ho
        have ht : t.length ≤ 10 := Nat.le_trans (dlt_sub hdl).length_le h10
        obtain ⟨w3, v, e3, s3, f3, M3, -⟩ := E149 (d := d) s2 M2 G2 h16
        have em : mkR G[i].1 t = some (G[i].1, t) := by unfold mkR; rw [if_pos ht]
        rw [em] at M3
        have el : (w_a w2 31).getD (Int32.ofNat i).toNatClampNeg 0 = Int32.ofNat G[i].1 := RM_left (RM_Fr O1 f2 (by decide) (by decide)) hi
        refine ⟨_, w3, ⟨s3, Fr_trans f1 (Fr_trans (Fr_mono f2 (by simp) (by simp)) (Fr_mono f3 (by simp) (by simp))), M3, PI_mono (PI_add M1.2.1 P1 (q := (G[i].1, t)) ⟨G[i], List.getElem_mem hi, rfl, hdl⟩) fun x hx => ?_⟩, fun r w' h => sg_168_27 (d := d + 2) s1 _ _ ⟨RM_out O1 hi, fun q => absurd q hlt, fun _ => ⟨_, w2, e2, s2, fun q => absurd q (show ¬ bI true = 0 by decide), fun _ => ⟨RM_out O1 hi, v, w3, by rw [el]; exact e3, s3, ?_⟩⟩⟩⟩
        · rcases hx with hx | ⟨b', hb', e1, e4⟩
          · exact Or.inl (Or.inl hx)
          · by_cases hbb : b' = b
            · subst hbb
              rw [ho] at e4
              exact Or.inr (Prod.ext e1 (Option.some.inj e4).symm)
            · exact Or.inl (Or.inr ⟨b', by omega, e1, e4⟩)
        · rw [i_s]; exact h)
    (2 ^ G[i].2.length - 1) 1 p w (by omega) ⟨hS, Fr_refl, hM, PI_mono hP fun x hx => by
      rcases hx with hx | ⟨b', hb', e1, e3⟩
      · exact hx
      · obtain rfl : b' = 0 := by omega
        rw [show Int32.ofNat 0 = 0 from rfl, lvO_0] at e3
        have : x = G[i] := Prod.ext e1 (Option.some.inj e3).symm
        rw [this]; exact hD⟩
  have O1 : RM w1 8 31 G := RM_Fr hO f1 (by decide) (by decide)
  refine ⟨p1, w1, ⟨s1, f1, M1, PI_mono P1 fun x hx => ?_⟩, Go_trans g1 fun r w' h => sg_168_27 (d := d + 2) s1 _ _ ⟨RM_out O1 hi, fun _ => by rw [i_s]; exact h, fun q => absurd ?_ q⟩⟩
  · rcases hx with hx | ⟨e1, e3⟩
    · exact Or.inl hx
    · obtain ⟨b, hb, hy⟩ := dlt_lvO 0 e3 (by omega)
      have := hy 0 (by decide)
      rw [show 2 ^ 0 * b + 0 = b by simp] at this
      exact Or.inr ⟨b, hb, e1, this⟩
  · rw [esh w1 O1]; exact (i_le (by omega) (by omega)).mpr (Nat.le_refl _)
theorem E168_o {N : Nat → Bool} : ∀ (m i : Nat) (w : gk_Wd) (p : Bool × List Rl), gk_Sh rr w → RM w 8 31 G → nlM w = N → MA w p → PI (cE N G) (fun x => x ∈ G ∨ ∃ (j : Nat) (hj : j < G.length), j < i ∧ x.1 = G[j].1 ∧ dlt N G[j].2 x.2) p → i + m = G.length →
    ∃ (p1 : Bool × List Rl) (w1 : gk_Wd), (gk_Sh rr w1 ∧ Fr [28, 29, 30, 34] [(26, 4), (26, 12), (26, 14)] w w1 ∧ MA w1 p1 ∧ PI (cE N G) (cE N G) p1) ∧ Go (d + 3) 168 10 [some (.ref 27), some (.int (Int32.ofNat i)), none] w 78 [some (.ref 27), some (.int (w_i w1 26 4 - 1)), none] w1
  | 0, i, w, p, hS, hO, hN, hM, hP, hi => by
    have h60 := RM_60 hO
    refine ⟨p, w, ⟨hS, Fr_refl, hM, PI_mono hP fun x hx => ?_⟩, fun r w' h => sg_168_10 (d := d + 2) hS _ ⟨fun _ => h, fun q => absurd ((RM_le hO (by omega)).mpr (by omega)) q⟩⟩
    obtain ⟨g, hg, e1, e2⟩ := hx
    obtain ⟨j, hj, rfl⟩ := List.mem_iff_getElem.mp hg
    exact Or.inr ⟨j, hj, by omega, e1.symm, e2⟩
  | m + 1, i, w, p, hS, hO, hN, hM, hP, hi => by
    have h60 := RM_60 hO
    have hil : i < G.length := by omega
    have hle : ¬ w_i w 26 8 ≤ Int32.ofNat i := fun q => absurd ((RM_le hO (by omega)).mp q) (by omega)
    obtain ⟨ob, H⟩ := p
    cases ob with
    | true =>
      have h14 : ¬ w_i w 26 14 = 0 := by
        rw [hM.2.2]; exact (by decide : ¬ bI true = 0)
      exact ⟨(true, H), w, ⟨hS, Fr_refl, hM, fun q => (by cases q), fun _ => hP.2 rfl⟩, fun r w' h => sg_168_10 (d := d + 2) hS _ ⟨fun _ => h, fun _ => ⟨fun _ => h, fun q => absurd q h14⟩⟩⟩
    | false =>
      have h14 : w_i w 26 14 = 0 := hM.2.2
      obtain ⟨p1, w1, ⟨s1, f1, M1, P1⟩, g1⟩ := E168_b (d := d) hS hO hN hil hM hP (Or.inl (List.getElem_mem hil))
      obtain ⟨p2, w2, ⟨s2, f2, M2, P2⟩, g2⟩ := E168_o (N := N) m (i + 1) w1 p1 s1 (RM_Fr hO f1 (by decide) (by decide)) (by rw [nlM_congr (Fr_a f1 (by decide)), hN]) M1 (PI_mono P1 fun x hx => by
        rcases hx with hx | ⟨j, hj, hji, e1, e2⟩
        · exact Or.inl (Or.inl hx)
        · by_cases hij : j = i
          · subst hij; exact Or.inr ⟨e1, e2⟩
          · exact Or.inl (Or.inr ⟨j, hj, by omega, e1, e2⟩)) (by omega)
      exact ⟨p2, w2, ⟨s2, Fr_trans f1 f2, M2, P2⟩, fun r w' h => sg_168_10 (d := d + 2) hS _ ⟨fun q => absurd q hle, fun _ => ⟨fun q => absurd h14 q, fun _ => g1 r w' (g2 r w' h)⟩⟩⟩
theorem E168_f (hS : gk_Sh rr w) {H : List Rl} (hR : RM w 4 28 H) : ∃ w', gk_Sh rr w' ∧ Fr [28, 29, 30] [(26, 4)] w w' ∧ RM w' 4 28 (H.filter neB) ∧ gk_W none (d + 3) 168 78 [some (.ref 27), some (.int (w_i w 26 4 - 1)), none] [] w (.inl none) w' := by
  obtain ⟨w1, s1, f1, R1, g1⟩ := dn_RM (d := d + 3) (mi := 168) (pc := 78) neB (fun x => [some (.ref 27), some (.int x), none]) (d + 1) (fun _ => True) (fun _ _ _ _ => trivial) (fun k w H hk hS hR _ r w' h1 h2 => by
    have h60 := RM_60 hR
    have h10 := (RM_ok hR hk).2.1
    have es := RM_size hR hk
    have e0 : (w_a w 29).getD (Int32.ofNat k).toNatClampNeg 0 = 0 ↔ H[k].2.length = 0 := by
      rw [es]; exact i_eq (b := 0) (by omega) (by omega)
    refine sg_168_78 (d := d + 2) hS _ ⟨fun q => absurd q (i_neg (by omega)), fun _ => ⟨RM_out hR hk, fun q => ?_, fun q => ?_⟩⟩
    · rw [e0] at q
      rw [i_m1]; exact h1 (by simp only [neB]; rw [decide_eq_false q]; rfl)
    · rw [e0] at q
      rw [i_m1]; exact h2 (by simp only [neB]; rw [decide_eq_true q]; rfl)) H.length w H hS hR trivial (Nat.le_refl _)
  rw [dfl_all] at R1
  rw [hR.1]
  exact ⟨w1, s1, f1, R1, g1 _ _ (sg_168_78 (d := d + 2) s1 _ ⟨fun _ => ⟨rfl, rfl⟩, fun q => absurd i_z1 q⟩)⟩
theorem BA_nlM {S : Nat → Bool} (h : BA w 38 S) (hG : isP false G S) (hok : ∀ r ∈ G, okR r) (hS : gk_Sh rr w) : nlM w = S := by
  have hl := (w_int hS ly_38).2
  funext v
  by_cases hv : v < 16
  · simp only [nlM]
    rw [h v hv]
    cases S v <;> rfl
  · have h1 : S v = false := by
      rcases hsv : S v with _ | _
      · rfl
      · have := hG.2 (fun u => decide (u < 16)) (fun r hr _ => decide_eq_true (hok r hr).1) v hsv
        exact absurd (of_decide_eq_true this) hv
    simp only [nlM]
    rw [h1, List.getD_eq_getElem?_getD, List.getElem?_eq_none (by omega)]
    rfl
/-- cleanEmpty -/
theorem E168 (hS : gk_Sh rr w) (hR : RM w 4 28 G) (hs : srt G) (ho : w_i w 26 14 = 0) : ∃ (o : Option (List Rl)) (w' : gk_Wd), solR G o ∧ gk_E (d + 3) 168 [.ref 27] w (.inl none) w' ∧ gk_Sh rr w' ∧ Fr [28, 29, 30, 31, 32, 33, 34, 38] [(26, 4), (26, 8), (26, 12), (26, 14)] w w' ∧ (∀ K, o = some K → MA w' (false, K)) ∧ (o = none → ∃ K, MA w' (true, K)) := by
  obtain ⟨w1, e1, s1, f1, O1⟩ := E148 (d := d + 2) hS hR
  obtain ⟨w2, N, e2, s2, f2, B2, P2⟩ := E169 (d := d) s1 (RM_Fr hR f1 (by decide) (by decide))
  have R2 : RM w2 4 28 G := RM_Fr (RM_Fr hR f1 (by decide) (by decide)) f2 (by decide) (by decide)
  have O2 : RM w2 8 31 G := RM_Fr O1 f2 (by decide) (by decide)
  have N2 := BA_nlM B2 P2 hR.2.2.1 s2
  have h14 : w_i w2 26 14 = 0 := by rw [Fr_i f2 (by simp), Fr_i f1 (by decide), ho]
  obtain ⟨p, w3, ⟨s3, f3, M3, P3⟩, g3⟩ := E168_o (d := d) (N := N) G.length 0 w2 (false, G) s2 O2 N2 ⟨R2, hs, h14⟩ ⟨fun _ => ⟨fun r hr => ⟨r, hr, rfl, dlt_refl _ _⟩, fun q hq => by
    rcases hq with hq | ⟨j, hj, h0, _⟩
    · exact hq
    · omega⟩, fun q => by cases q⟩ (by omega)
  obtain ⟨w4, s4, f4, R4, g4⟩ := E168_f (d := d) s3 M3.1
  have hE : gk_E (d + 3) 168 [.ref 27] w (.inl none) w4 := gk_E_i rfl rfl (sg_168_0 (d := d + 2) hS ⟨w1, e1, s1, w2, e2, s2, g3 _ _ g4⟩)
  have hF : Fr [28, 29, 30, 31, 32, 33, 34, 38] [(26, 4), (26, 8), (26, 12), (26, 14)] w w4 := Fr_trans (Fr_mono f1 (by simp) (by simp)) (Fr_trans (Fr_mono f2 (by simp) (by simp)) (Fr_trans (Fr_mono f3 (by simp) (by simp)) (Fr_mono f4 (by simp) (by simp))))
  obtain ⟨ob, H⟩ := p
  have M4 : MA w4 (ob, H.filter neB) := ⟨R4, srt_filter M3.2.1 _, by rw [Fr_i f4 (by decide)]; exact M3.2.2⟩
  cases ob with
  | false =>
    obtain ⟨q1, q2⟩ := P3.1 rfl
    exact ⟨some (H.filter neB), w4, ⟨N, P2, H, ⟨M3.2.1, fun r => ⟨q1 r, q2 r⟩⟩, RM_60 M3.1, rfl⟩, hE, s4, hF, fun K e => by cases e; exact M4, fun e => by cases e⟩
  | true => exact ⟨none, w4, ⟨N, P2, P3.2 rfl⟩, hE, s4, hF, fun K e => (by cases e), fun _ => ⟨_, M4⟩⟩
/-- finish: the rows stay -/
theorem E172_ok (hS : gk_Sh rr w) (hR : RM w 4 28 G) {H : List Rl} (hH : RM w 32 48 H) (ho : w_i w 26 14 = 0) : ∃ w', gk_E (d + 2) 172 [.ref 27] w (.inl (some (.int (Int32.ofNat G.length)))) w' ∧ gk_Sh rr w' ∧ Fr [31, 32, 33] [(26, 8), (26, 28)] w w' ∧ w_i w' 26 28 = (if G = H then w_i w 26 28 else 0) := by
  have s0 := sh_si hS ly_26 (k := 8) rfl (w_i w 26 32)
  have f0 : Fr [31, 32, 33] [(26, 8)] w (w_si w 26 8 (w_i w 26 32)) := Fr_si (by decide) _
  have H0 : RM (w_si w 26 8 (w_i w 26 32)) 32 48 H := RM_Fr hH f0 (by decide) (by decide)
  obtain ⟨w1, s1, f1, a1, g1⟩ := E172_l (d := d + 1) H.length 0 _ s0 H0.1 H0.2.1 H0.2.2.1 H0.2.2.2 (fun j r hj => by omega) (by omega)
  have O1 : RM w1 8 31 H := ⟨by rw [Fr_i f1 (by simp), w_i_same hS ly_26 rfl]; exact hH.1, hH.2.1, hH.2.2.1, a1⟩
  have R1 : RM w1 4 28 G := RM_Fr (RM_Fr hR f0 (by decide) (by decide)) f1 (by decide) (by decide)
  have o1 : w_i w1 26 14 = 0 := by rw [Fr_i f1 (by simp), Fr_i f0 (by decide), ho]
  have h60 := RM_60 hH
  have e1 := E173_ok (d := d) s1 R1 O1 o1
  have hle : w_i w1 26 32 ≤ Int32.ofNat H.length := (RM_le (RM_Fr H0 f1 (by decide) (by decide)) (by omega)).mpr (Nat.le_refl _)
  have s2 : gk_Sh rr (if G = H then w1 else w_si w1 26 28 0) := by
    split
    · exact s1
    · exact sh_si s1 ly_26 (k := 28) rfl _
  refine ⟨_, gk_E_i rfl rfl (sg_172_0 (d := d + 1) hS (g1 _ _ (sg_172_10 (d := d + 1) s1 _ ⟨fun _ => ⟨_, _, e1, s2, rfl, rfl⟩, fun q => absurd hle q⟩))), s2, ?_, ?_⟩
  · refine Fr_trans (Fr_mono f0 (by simp) (by simp)) (Fr_trans (Fr_mono f1 (by simp) (by simp)) ?_)
    split
    · exact Fr_refl
    · exact Fr_si (by decide) _
  · by_cases e : G = H
    · rw [if_pos e, if_pos e, Fr_i f1 (by simp), Fr_i f0 (by decide)]
    · rw [if_neg e, if_neg e, w_i_same s1 ly_26 rfl]
/-- finish: the rows go back -/
theorem E172_no (hS : gk_Sh rr w) {H : List Rl} (hH : RM w 32 48 H) (ho : ¬ w_i w 26 14 = 0) : ∃ w', gk_E (d + 2) 172 [.ref 27] w (.inl (some (.int 0))) w' ∧ gk_Sh rr w' ∧ Fr [28, 29, 30, 31, 32, 33] [(26, 0), (26, 4), (26, 8)] w w' ∧ RM w' 4 28 H ∧ w_i w' 26 0 = 1 := by
  have s0 := sh_si hS ly_26 (k := 8) rfl (w_i w 26 32)
  have f0 : Fr [31, 32, 33] [(26, 8)] w (w_si w 26 8 (w_i w 26 32)) := Fr_si (by decide) _
  have H0 : RM (w_si w 26 8 (w_i w 26 32)) 32 48 H := RM_Fr hH f0 (by decide) (by decide)
  obtain ⟨w1, s1, f1, a1, g1⟩ := E172_l (d := d + 1) H.length 0 _ s0 H0.1 H0.2.1 H0.2.2.1 H0.2.2.2 (fun j r hj => by omega) (by omega)
  have O1 : RM w1 8 31 H := ⟨by rw [Fr_i f1 (by simp), w_i_same hS ly_26 rfl]; exact hH.1, hH.2.1, hH.2.2.1, a1⟩
  have o1 : ¬ w_i w1 26 14 = 0 := by rw [Fr_i f1 (by simp), Fr_i f0 (by decide)]; exact ho
  have h60 := RM_60 hH
  obtain ⟨w2, e2, s2, f2, R2, c2⟩ := E173_no (d := d) s1 O1 o1
  have hle : w_i w1 26 32 ≤ Int32.ofNat H.length := (RM_le (RM_Fr H0 f1 (by decide) (by decide)) (by omega)).mpr (Nat.le_refl _)
  exact ⟨w2, gk_E_i rfl rfl (sg_172_0 (d := d + 1) hS (g1 _ _ (sg_172_10 (d := d + 1) s1 _ ⟨fun _ => ⟨_, w2, e2, s2, rfl, rfl⟩, fun q => absurd hle q⟩))), s2, Fr_trans (Fr_mono f0 (by simp) (by simp)) (Fr_trans (Fr_mono f1 (by simp) (by simp)) (Fr_mono f2 (by simp) (by simp))), R2, c2⟩
end ME
