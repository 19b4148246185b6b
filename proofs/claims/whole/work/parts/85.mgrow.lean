/-! part 59: whether there are finitely many words: the reference -/
def fl (G : List Rl) : List (Nat × Nat) := G.flatMap fun r => r.2.map fun s => (r.1, s)
theorem fl_take {G : List Rl} {k : Nat} (hk : k < G.length) : fl (G.take (k + 1)) = fl (G.take k) ++ G[k].2.map fun s => (G[k].1, s) := by
  unfold fl
  rw [List.take_succ_eq_append_getElem hk, List.flatMap_append]
  simp
theorem fl_mem {G : List Rl} {e : Nat × Nat} : e ∈ fl G ↔ ∃ r ∈ G, r.1 = e.1 ∧ e.2 ∈ r.2 := by
  unfold fl
  rw [List.mem_flatMap]
  refine exists_congr fun r => and_congr Iff.rfl ?_
  rw [List.mem_map]
  constructor
  · rintro ⟨s, hs, rfl⟩; exact ⟨rfl, hs⟩
  · rintro ⟨h1, h2⟩; exact ⟨e.2, h2, Prod.ext h1 rfl⟩
def eW (S : Nat → Bool) (e : Nat × Nat) : Nat → Bool := if ltS S e.2 = true then usb S e.1 else S
theorem eW_le (S : Nat → Bool) (e : Nat × Nat) : sle S (eW S e) := by
  unfold eW
  split
  · exact fun v h => usb_le S _ v h
  · exact sle_refl _
theorem eW_fold_le (E : List (Nat × Nat)) (S : Nat → Bool) : sle S (E.foldl eW S) := fold_le sle sle_refl sle_trans _ eW_le E S
theorem eW_inv {X : Nat → Bool} {E : List (Nat × Nat)} (hX : ∀ e ∈ E, ltS X e.2 = true → X e.1 = true) {S : Nat → Bool} (h : sle S X) : sle (E.foldl eW S) X := fold_inv (fun S => sle S X) eW E (fun S e he hS v hv => by
  unfold eW at hv
  split at hv
  · rename_i c
    simp only [usb, Bool.or_eq_true, decide_eq_true_eq] at hv
    rcases hv with hv | rfl
    · exact hS v hv
    · exact hX e he (ltS_mono hS c)
  · exact hS v hv) S h
theorem eW_fix {E : List (Nat × Nat)} {S : Nat → Bool} (h : E.foldl eW S = S) : ∀ e ∈ E, ltS S e.2 = true → S e.1 = true := fun e he hs => by
  have := fold_fix sle sle_refl sle_trans sle_anti eW eW_le E S h e he
  unfold eW at this
  rw [if_pos hs] at this
  rw [← this]
  simp [usb]
theorem isW_rnd {G : List Rl} (hG : ∀ r ∈ G, okR r) : isW G (rnd (fun S => (fl G).foldl eW S) 17 (fun _ => false)) := by
  have h16 : ∀ S : Nat → Bool, (∀ v, S v = true → v < 16) → ∀ v, (fl G).foldl eW S v = true → v < 16 := fun S hS v hv => of_decide_eq_true (eW_inv (X := fun v => decide (v < 16)) (fun e he _ => by
    obtain ⟨r, hr, h1, -⟩ := fl_mem.mp he
    exact decide_eq_true (by rw [← h1]; exact (hG r hr).1)) (fun u hu => decide_eq_true (hS u hu)) v hv)
  refine ⟨fun r hr ⟨s, hs, hl⟩ => ?_, fun T hT => ?_⟩
  · exact eW_fix (rnd_fix (f := fun S => (fl G).foldl eW S) (eW_fold_le (fl G)) h16 (S := fun _ => false) (fun v hv => by cases hv) (n := 17) (by omega)) (r.1, s) (fl_mem.mpr ⟨r, hr, rfl, hs⟩) hl
  · exact rnd_inv (fun S => sle S T) (fun S hS => eW_inv (fun e he hl => by
      obtain ⟨r, hr, h1, h2⟩ := fl_mem.mp he
      rw [← h1]; exact hT r hr ⟨e.2, h2, hl⟩) hS) (fun v hv => by cases hv) 17
def dS (T : Nat → Nat → Bool) (e : Nat × Nat) : Nat → Nat → Bool := if e.2 < 16 then fun x => eS (T x) e else T
def dE (G : List Rl) : List (Nat × Nat) := (fl G).filter fun e => decide (e.2 < 16)
theorem dS_fold : ∀ (E : List (Nat × Nat)) (T : Nat → Nat → Bool) (x : Nat), E.foldl dS T x = (E.filter fun e => decide (e.2 < 16)).foldl eS (T x)
  | [], _, _ => rfl
  | e :: E, T, x => by
    rw [List.foldl_cons, dS_fold E]
    unfold dS
    by_cases h : e.2 < 16
    · rw [if_pos h, List.filter_cons_of_pos (by simpa using h), List.foldl_cons]
    · rw [if_neg h, List.filter_cons_of_neg (by simpa using h)]
theorem dE_iff {G : List Rl} {i j : Nat} : eM (fun _ => true) G i j = true ↔ (i, j) ∈ dE G := by
  unfold dE
  rw [List.mem_filter, fl_mem, eM, List.any_eq_true]
  simp only [Bool.true_and, Bool.and_eq_true, decide_eq_true_eq]
  constructor
  · rintro ⟨r, hr, h1, h2, h3⟩; exact ⟨⟨r, hr, h1, h3⟩, h2⟩
  · rintro ⟨⟨r, hr, h1, h3⟩, h2⟩; exact ⟨r, hr, h1, h2, h3⟩
theorem dE_16 {G : List Rl} (hG : ∀ r ∈ G, okR r) : ∀ e ∈ dE G, e.1 < 16 ∧ e.2 < 16 := by
  intro e he
  unfold dE at he
  rw [List.mem_filter, fl_mem] at he
  obtain ⟨⟨r, hr, h1, h2⟩, h3⟩ := he
  exact ⟨by rw [← h1]; exact (hG r hr).1, of_decide_eq_true h3⟩
section MG
variable {d : Nat} {rr : List gk_S} {w : gk_Wd} {G : List Rl}
theorem BA_congr {a : Nat} {S : Nat → Bool} {w' : gk_Wd} (h : BA w a S) (e : w_a w' a = w_a w a) : BA w' a S := fun v hv => by rw [e]; exact h v hv
theorem BA_ext {a : Nat} {S T : Nat → Bool} (h : BA w a S) (e : S = T) : BA w a T := e ▸ h
theorem i17 {k : Nat} (h : k < 17) : ¬ (17 : Int32) ≤ Int32.ofNat k := fun q => absurd ((i_le (a := 17) (by omega) (by omega)).mp q) (by omega)
/-- findGrows -/
theorem E194 (hS : gk_Sh rr w) (hR : RM w 4 28 G) : ∃ (S : Nat → Bool) (w' : gk_Wd), isW G S ∧ gk_E (d + 1) 194 [.ref 27] w (.inl none) w' ∧ gk_Sh rr w' ∧ Fr [39] [] w w' ∧ BA w' 39 S := by
  have h60 := RM_60 hR
  obtain ⟨-, w1, ⟨s1, f1, h1⟩, g1⟩ := up_loop (α := Unit) (d := d + 1) (mi := 194) (pc := 2) 16 (fun k _ => [some (.ref 27), some (.int (Int32.ofNat k)), none, none])
    (fun k _ w1 => gk_Sh rr w1 ∧ Fr [39] [] w w1 ∧ ∀ v, v < k → (w_a w1 39).getD v 0 = 0)
    (fun k _ w1 hk hI => by
      obtain ⟨s1, f1, h1⟩ := hI
      have hl := (w_int s1 ly_39).2
      refine ⟨(), _, ⟨sh_as s1 ly_39 k 0, Fr_trans f1 (Fr_sa (by simp) _), fun v hv => ?_⟩, fun r w' g => sg_194_2 s1 _ ⟨fun q => absurd q (n16 hk), fun _ => ⟨o16 hk, by rw [i_nat (by omega), i_s]; exact g⟩⟩⟩
      rw [w_a_same s1 ly_39, getD_set32 _ (by omega)]
      by_cases e : v = k
      · rw [if_pos e]
      · rw [if_neg e]; exact h1 v (by omega)) 16 0 () w (by omega) ⟨hS, Fr_refl, fun v hv => by omega⟩
  obtain ⟨-, w2, ⟨s2, f2, h2⟩, g2⟩ := up_loop (α := Unit) (d := d + 1) (mi := 194) (pc := 23) 17 (fun k _ => [some (.ref 27), some (.int (Int32.ofNat k)), none, none])
    (fun n _ w2 => gk_Sh rr w2 ∧ Fr [39] [] w w2 ∧ BA w2 39 (rnd (fun S => (fl G).foldl eW S) n (fun _ => false)))
    (fun n _ w2 hn hI => by
      obtain ⟨s2, f2, h2⟩ := hI
      generalize hS0 : rnd (fun S => (fl G).foldl eW S) n (fun _ => false) = S0 at h2
      obtain ⟨-, w3, ⟨s3, f3, h3⟩, g3⟩ := up_loop (α := Unit) (d := d + 1) (mi := 194) (pc := 31) G.length (fun k _ => [some (.ref 27), some (.int (Int32.ofNat n)), some (.int (Int32.ofNat k)), none])
        (fun k _ w3 => gk_Sh rr w3 ∧ Fr [39] [] w w3 ∧ BA w3 39 ((fl (G.take k)).foldl eW S0))
        (fun k _ w3 hk hI => by
          obtain ⟨s3, f3, h3⟩ := hI
          have R3 : RM w3 4 28 G := RM_Fr hR f3 (by decide) (by simp)
          have hok := RM_ok R3 hk
          have h16 := hok.1
          have h10 := hok.2.1
          have hle : ¬ w_i w3 26 4 ≤ Int32.ofNat k := fun q => absurd ((RM_le R3 (by omega)).mp q) (by omega)
          obtain ⟨-, w4, ⟨s4, f4, h4⟩, g4⟩ := up_loop (α := Unit) (d := d + 1) (mi := 194) (pc := 41) G[k].2.length (fun j _ => [some (.ref 27), some (.int (Int32.ofNat n)), some (.int (Int32.ofNat k)), some (.int (Int32.ofNat j))])
            (fun j _ w4 => gk_Sh rr w4 ∧ Fr [39] [] w w4 ∧ BA w4 39 (((G[k].2.take j).map fun s => (G[k].1, s)).foldl eW ((fl (G.take k)).foldl eW S0)))
            (fun j _ w4 hj hI => by
              obtain ⟨s4, f4, h4⟩ := hI
              have R4 : RM w4 4 28 G := RM_Fr hR f4 (by decide) (by simp)
              have ea := RM_at R4 hk hj
              have el := RM_left R4 hk
              have hsy := hok.2.2 _ (List.getElem_mem hj)
              have hsz : ¬ (w_a w4 29).getD (Int32.ofNat k).toNatClampNeg 0 ≤ Int32.ofNat j := fun q => absurd ((RM_sz R4 hk (by omega)).mp q) (by omega)
              have ol : gk_out ((w_a w4 28).getD (Int32.ofNat k).toNatClampNeg 0) 16 = false := by rw [el]; exact o16 h16
              generalize hS1 : ((G[k].2.take j).map fun s => (G[k].1, s)).foldl eW ((fl (G.take k)).foldl eW S0) = S1 at h4
              have et : ((G[k].2.take (j + 1)).map fun s => (G[k].1, s)).foldl eW ((fl (G.take k)).foldl eW S0) = eW S1 (G[k].1, G[k].2[j]) := by
                rw [List.take_succ_eq_append_getElem hj, List.map_append, List.foldl_append, hS1]; rfl
              by_cases hc : ltS S1 G[k].2[j] = true
              · have ee : eW S1 (G[k].1, G[k].2[j]) = usb S1 G[k].1 := if_pos hc
                have hcont : ∀ (r : gk_Res) (w' : gk_Wd), gk_W none (d + 1) 194 41 [some (.ref 27), some (.int (Int32.ofNat n)), some (.int (Int32.ofNat k)), some (.int (Int32.ofNat (j + 1)))] [] (w_sa w4 39 ((w_a w4 39).set G[k].1 1)) r w' → gk_W none (d + 1) 194 41 [some (.ref 27), some (.int (Int32.ofNat n)), some (.int (Int32.ofNat k)), some (.int (Int32.ofNat j + 1))] [] (w_sa w4 39 ((w_a w4 39).set ((w_a w4 28).getD (Int32.ofNat k).toNatClampNeg 0).toNatClampNeg 1)) r w' := fun r w' h => by
                  rw [el, i_nat (by omega), i_s]; exact h
                refine ⟨(), _, ⟨sh_as s4 ly_39 G[k].1 1, Fr_trans f4 (Fr_sa (by simp) _), ?_⟩, fun r w' h => sg_194_41 s4 _ _ _ ⟨RM_out R4 hk, fun q => absurd q hsz, fun _ => ⟨RM_io R4 hk (by omega), fun q => ⟨RM_out R4 hk, ol, hcont r w' h⟩, fun q => ⟨RM_io R4 hk (by omega), ?_, fun q2 => ?_, fun q2 => ⟨RM_out R4 hk, ol, hcont r w' h⟩⟩⟩⟩⟩
                · rw [et, ee]; exact BA_set s4 ly_39 h4 h16
                · rw [ea, f_163_n (by omega)] at q
                  rw [ea]; exact o16 (by omega)
                · rw [ea, f_163_n (by omega)] at q
                  rw [BA_at h4 ea (by omega)] at q2
                  rcases ltS_iff.mp hc with q3 | q3
                  · omega
                  · rw [q2] at q3; cases q3
              · have ee : eW S1 (G[k].1, G[k].2[j]) = S1 := if_neg hc
                have hn2 : ¬ (16 ≤ G[k].2[j] ∨ S1 G[k].2[j] = true) := fun q => hc (ltS_iff.mpr q)
                refine ⟨(), w4, ⟨s4, f4, by rw [et, ee]; exact h4⟩, fun r w' h => sg_194_41 s4 _ _ _ ⟨RM_out R4 hk, fun q => absurd q hsz, fun _ => ⟨RM_io R4 hk (by omega), fun q => ?_, fun q => ⟨RM_io R4 hk (by omega), ?_, fun _ => by rw [i_s]; exact h, fun q2 => ?_⟩⟩⟩⟩
                · rw [ea, f_163_n (by omega)] at q
                  exact absurd (Or.inl q) hn2
                · rw [ea]; exact o16 (by omega)
                · rw [BA_at h4 ea (by omega)] at q2
                  exact absurd (Or.inr (by simpa using q2)) hn2) G[k].2.length 0 () w3 (by omega) ⟨s3, f3, h3⟩
          rw [List.take_of_length_le (Nat.le_refl _)] at h4
          have R4 : RM w4 4 28 G := RM_Fr hR f4 (by decide) (by simp)
          refine ⟨(), w4, ⟨s4, f4, ?_⟩, fun r w' h => sg_194_31 s3 _ _ ⟨fun q => absurd q hle, fun _ => g4 r w' (sg_194_41 s4 _ _ _ ⟨RM_out R4 hk, fun _ => by rw [i_s]; exact h, fun q => absurd ((RM_sz R4 hk (by omega)).mpr (Nat.le_refl _)) q⟩)⟩⟩
          rw [fl_take hk, List.foldl_append]; exact h4) G.length 0 () w2 (by omega) ⟨s2, f2, h2⟩
      rw [List.take_of_length_le (Nat.le_refl _)] at h3
      have R3 : RM w3 4 28 G := RM_Fr hR f3 (by decide) (by simp)
      exact ⟨(), w3, ⟨s3, f3, by subst hS0; exact h3⟩, fun r w' h => sg_194_23 s2 _ ⟨fun q => absurd q (i17 hn), fun _ => g3 r w' (sg_194_31 s3 _ _ ⟨fun _ => by rw [i_s]; exact h, fun q => absurd ((RM_le R3 (by omega)).mpr (Nat.le_refl _)) q⟩)⟩⟩) 17 0 () w1 (by omega) ⟨s1, f1, fun v hv => by rw [h1 v hv]; rfl⟩
  exact ⟨_, w2, isW_rnd hR.2.2.1, gk_E_i rfl rfl (sg_194_0 hS (g1 _ _ (sg_194_2 s1 _ ⟨fun _ => g2 _ _ (sg_194_23 s2 _ ⟨fun _ => ⟨rfl, rfl⟩, fun q => absurd (by decide) q⟩), fun q => absurd y16 q⟩))), s2, f2, h2⟩
/-- the relation between the variables -/
theorem E193_a (hS : gk_Sh rr w) (hR : RM w 4 28 G) : ∃ (T : Nat → Nat → Bool) (w1 : gk_Wd), isT (eM (fun _ => true) G) T ∧ gk_Sh rr w1 ∧ Fr [40] [] w w1 ∧ LM w1 T ∧ Go (d + 2) 193 6 [some (.ref 27), some (.int (Int32.ofNat 0)), none, none, none, none] w 162 [some (.ref 27), some (.int 0), some (.int 0), none, none, none] w1 := by
  have h60 := RM_60 hR
  obtain ⟨w1, s1, f1, L1, g1⟩ := LM_init (d := d) (mi := 193) (pc := 6) (L := fun x => [some (.ref 27), some (.int x), none, none, none, none]) hS (fun k w hk hS r w' g => by
    have hd := diag ⟨k, hk⟩
    simp only at hd
    refine sg_193_6 (d := d + 1) hS _ ⟨fun q => absurd ((i_le (a := 256) (by omega) (by omega)).mp q) (by omega), fun _ => ⟨fun q => ⟨o_ok hk (by omega), ?_⟩, fun q => ⟨o_ok hk (by omega), ?_⟩⟩⟩
    · rw [hd] at q
      rw [decide_eq_false q] at g
      rw [i_nat (by omega), i_s]; exact g
    · rw [hd] at q
      rw [decide_eq_true q] at g
      rw [i_nat (by omega), i_s]; exact g)
  have R1 : RM w1 4 28 G := RM_Fr hR f1 (by decide) (by simp)
  obtain ⟨-, w2, ⟨s2, f2, L2⟩, g2⟩ := up_loop (α := Unit) (d := d + 2) (mi := 193) (pc := 43) 16 (fun k _ => [some (.ref 27), some (.int (Int32.ofNat k)), none, none, none, none])
    (fun k _ w2 => gk_Sh rr w2 ∧ Fr [40] [] w1 w2 ∧ LM w2 (rnd (fun T => (fl G).foldl dS T) k one))
    (fun n _ w2 hn hI => by
      obtain ⟨s2, f2, L2⟩ := hI
      generalize hT0 : rnd (fun T => (fl G).foldl dS T) n one = T0 at L2
      obtain ⟨-, w3, ⟨s3, f3, L3⟩, g3⟩ := up_loop (α := Unit) (d := d + 2) (mi := 193) (pc := 51) G.length (fun k _ => [some (.ref 27), some (.int (Int32.ofNat n)), some (.int (Int32.ofNat k)), none, none, none])
        (fun k _ w3 => gk_Sh rr w3 ∧ Fr [40] [] w1 w3 ∧ LM w3 ((fl (G.take k)).foldl dS T0))
        (fun k _ w3 hk hI => by
          obtain ⟨s3, f3, L3⟩ := hI
          have R3 : RM w3 4 28 G := RM_Fr R1 f3 (by decide) (by simp)
          have hok := RM_ok R3 hk
          have h16 := hok.1
          have h10 := hok.2.1
          have hle : ¬ w_i w3 26 4 ≤ Int32.ofNat k := fun q => absurd ((RM_le R3 (by omega)).mp q) (by omega)
          obtain ⟨-, w4, ⟨s4, f4, L4⟩, g4⟩ := up_loop (α := Unit) (d := d + 2) (mi := 193) (pc := 61) G[k].2.length (fun j _ => [some (.ref 27), some (.int (Int32.ofNat n)), some (.int (Int32.ofNat k)), some (.int (Int32.ofNat j)), none, none])
            (fun j _ w4 => gk_Sh rr w4 ∧ Fr [40] [] w1 w4 ∧ LM w4 (((G[k].2.take j).map fun s => (G[k].1, s)).foldl dS ((fl (G.take k)).foldl dS T0)))
            (fun j _ w4 hj hI => by
              obtain ⟨s4, f4, L4⟩ := hI
              have R4 : RM w4 4 28 G := RM_Fr R1 f4 (by decide) (by simp)
              have ea := RM_at R4 hk hj
              have hsy := hok.2.2 _ (List.getElem_mem hj)
              have hsz : ¬ (w_a w4 29).getD (Int32.ofNat k).toNatClampNeg 0 ≤ Int32.ofNat j := fun q => absurd ((RM_sz R4 hk (by omega)).mp q) (by omega)
              generalize hT1 : ((G[k].2.take j).map fun s => (G[k].1, s)).foldl dS ((fl (G.take k)).foldl dS T0) = T1 at L4
              have et : ((G[k].2.take (j + 1)).map fun s => (G[k].1, s)).foldl dS ((fl (G.take k)).foldl dS T0) = dS T1 (G[k].1, G[k].2[j]) := by
                rw [List.take_succ_eq_append_getElem hj, List.map_append, List.foldl_append, hT1]; rfl
              by_cases hv : G[k].2[j] < 16
              · have ee : dS T1 (G[k].1, G[k].2[j]) = fun x => eS (T1 x) (G[k].1, G[k].2[j]) := if_pos hv
                obtain ⟨w5, s5, f5, L5, g5⟩ := LM_edge (d := d) (mi := 193) (pc := 89) (L := fun x => [some (.ref 27), some (.int (Int32.ofNat n)), some (.int (Int32.ofNat k)), some (.int (Int32.ofNat j)), some (.int x), none]) (e := (G[k].1, G[k].2[j])) s4 L4 ⟨h16, hv⟩ (J := fun w => RM w 4 28 G) R4 (fun _ _ f h => RM_Fr h f (by decide) (by simp)) (fun x w T hx hS hL hR r w' h1 h2 => by
                  have el := RM_left hR hk
                  have ea := RM_at hR hk hj
                  refine sg_193_89 (d := d + 1) hS _ _ _ _ ⟨fun q => absurd q (n16 hx), fun _ => ⟨RM_out hR hk, ?_, fun q => ?_, fun q => ⟨RM_io hR hk (by omega), ?_, ?_⟩⟩⟩
                  · rw [el]; exact ix16_o hx h16
                  · rw [el, LM_0 hL hx h16] at q
                    rw [i_s]; exact h1 q
                  · rw [ea]; exact ix16_o hx hv
                  · rw [el, LM_0 hL hx h16] at q
                    rw [ea, ix16_n hx hv, i_s]; exact h2 (by simpa using q))
                refine ⟨(), w5, ⟨s5, Fr_trans f4 f5, by rw [et, ee]; exact L5⟩, fun r w' h => sg_193_61 (d := d + 1) s4 _ _ _ ⟨RM_out R4 hk, fun q => absurd q hsz, fun _ => ⟨RM_io R4 hk (by omega), fun _ => g5 r w' (sg_193_89 (d := d + 1) s5 _ _ _ _ ⟨fun _ => by rw [i_s]; exact h, fun q => absurd y16 q⟩), fun q => ?_⟩⟩⟩
                rw [ea, f_163_n (by omega)] at q; omega
              · have ee : dS T1 (G[k].1, G[k].2[j]) = T1 := if_neg hv
                refine ⟨(), w4, ⟨s4, f4, by rw [et, ee]; exact L4⟩, fun r w' h => sg_193_61 (d := d + 1) s4 _ _ _ ⟨RM_out R4 hk, fun q => absurd q hsz, fun _ => ⟨RM_io R4 hk (by omega), fun q => ?_, fun _ => by rw [i_s]; exact h⟩⟩⟩
                rw [ea, f_163_n (by omega)] at q; omega) G[k].2.length 0 () w3 (by omega) ⟨s3, f3, L3⟩
          rw [List.take_of_length_le (Nat.le_refl _)] at L4
          have R4 : RM w4 4 28 G := RM_Fr R1 f4 (by decide) (by simp)
          refine ⟨(), w4, ⟨s4, f4, ?_⟩, fun r w' h => sg_193_51 (d := d + 1) s3 _ _ ⟨fun q => absurd q hle, fun _ => g4 r w' (sg_193_61 (d := d + 1) s4 _ _ _ ⟨RM_out R4 hk, fun _ => by rw [i_s]; exact h, fun q => absurd ((RM_sz R4 hk (by omega)).mpr (Nat.le_refl _)) q⟩)⟩⟩
          rw [fl_take hk, List.foldl_append]; exact L4) G.length 0 () w2 (by omega) ⟨s2, f2, L2⟩
      rw [List.take_of_length_le (Nat.le_refl _)] at L3
      have R3 : RM w3 4 28 G := RM_Fr R1 f3 (by decide) (by simp)
      exact ⟨(), w3, ⟨s3, f3, by subst hT0; exact L3⟩, fun r w' h => sg_193_43 (d := d + 1) s2 _ ⟨fun q => absurd q (n16 hn), fun _ => g3 r w' (sg_193_51 (d := d + 1) s3 _ _ ⟨fun _ => by rw [i_s]; exact h, fun q => absurd ((RM_le R3 (by omega)).mpr (Nat.le_refl _)) q⟩)⟩⟩) 16 0 () w1 (by omega) ⟨s1, Fr_refl, L1⟩
  have hrow : ∀ (n x : Nat), rnd (fun T => (fl G).foldl dS T) n one x = rnd (fun S => (dE G).foldl eS S) n (one x) := fun n x => by
    induction n with
    | zero => rfl
    | succ n ih =>
      simp only [rnd]
      rw [dS_fold, ih]; rfl
  exact ⟨_, w2, isT_rnd (dE_16 hR.2.2.1) (fun i j _ => dE_iff) (fun x _ => hrow 16 x), s2, Fr_trans f1 f2, L2, fun r w' h => g1 r w' (sg_193_6 (d := d + 1) s1 _ ⟨fun _ => g2 r w' (sg_193_43 (d := d + 1) s2 _ ⟨fun _ => h, fun q => absurd y16 q⟩), fun q => absurd (by decide) q⟩)⟩
/-- what stands beside symbol k -/
theorem E193_i (hS : gk_Sh rr w) (hR : RM w 4 28 G) {S : Nat → Bool} (hB : BA w 39 S) {i k : Nat} (hi : i < G.length) (hk : k < G[i].2.length) {x1 : Int32} : ∃ b : Bool, (b = true ↔ ∃ (j : Nat) (hj : j < G[i].2.length), j ≠ k ∧ ltS S G[i].2[j] = true) ∧ Go (d + 2) 193 188 [some (.ref 27), some (.int x1), some (.int (Int32.ofNat i)), some (.int (Int32.ofNat k)), some (.int 0), some (.int (Int32.ofNat 0))] w 188 [some (.ref 27), some (.int x1), some (.int (Int32.ofNat i)), some (.int (Int32.ofNat k)), some (.int (bI b)), some (.int (Int32.ofNat G[i].2.length))] w := by
  have hok := RM_ok hR hi
  have h10 := hok.2.1
  obtain ⟨b, w1, ⟨rfl, hb⟩, g1⟩ := up_loop (α := Bool) (d := d + 2) (mi := 193) (pc := 188) G[i].2.length (fun j b => [some (.ref 27), some (.int x1), some (.int (Int32.ofNat i)), some (.int (Int32.ofNat k)), some (.int (bI b)), some (.int (Int32.ofNat j))])
    (fun j b w1 => w1 = w ∧ (b = true ↔ ∃ (j' : Nat) (hj : j' < G[i].2.length), j' < j ∧ j' ≠ k ∧ ltS S G[i].2[j'] = true))
    (fun j b w1 hj hI => by
      obtain ⟨rfl, hb⟩ := hI
      have ea := RM_at hR hi hj
      have hsy := hok.2.2 _ (List.getElem_mem hj)
      have hsz : ¬ (w_a w1 29).getD (Int32.ofNat i).toNatClampNeg 0 ≤ Int32.ofNat j := fun q => absurd ((RM_sz hR hi (by omega)).mp q) (by omega)
      cases b with
      | true =>
        refine ⟨true, w1, ⟨rfl, fun _ => ?_, fun _ => rfl⟩, fun r w' h => sg_193_188 (d := d + 1) hS _ _ _ _ _ ⟨RM_out hR hi, fun q => absurd q hsz, fun _ => ⟨fun _ => by rw [i_s]; exact h, fun q => absurd q (by decide)⟩⟩⟩
        obtain ⟨j', hj', q1, q2⟩ := hb.mp rfl
        exact ⟨j', hj', by omega, q2⟩
      | false =>
        have hnb : ¬ ∃ (j' : Nat) (hj : j' < G[i].2.length), j' < j ∧ j' ≠ k ∧ ltS S G[i].2[j'] = true := fun q => absurd (hb.mpr q) (by decide)
        by_cases hc : j ≠ k ∧ ltS S G[i].2[j] = true
        · have nk : ¬ Int32.ofNat j = Int32.ofNat k := by rw [i_eq (by omega) (by omega)]; exact hc.1
          refine ⟨true, w1, ⟨rfl, fun _ => ⟨j, hj, by omega, hc⟩, fun _ => rfl⟩, fun r w' h => sg_193_188 (d := d + 1) hS _ _ _ _ _ ⟨RM_out hR hi, fun q => absurd q hsz, fun _ => ⟨fun q => absurd rfl q, fun _ => ⟨fun q => absurd q nk, fun _ => ⟨RM_io hR hi (by omega), fun q => by rw [i_s]; exact h, fun q => ⟨RM_io hR hi (by omega), ?_, fun q2 => ?_, fun _ => by rw [i_s]; exact h⟩⟩⟩⟩⟩⟩
          · rw [ea, f_163_n (by omega)] at q
            rw [ea]; exact o16 (by omega)
          · rw [ea, f_163_n (by omega)] at q
            rw [BA_at hB ea (by omega)] at q2
            rcases ltS_iff.mp hc.2 with q3 | q3
            · omega
            · rw [q2] at q3; cases q3
        · refine ⟨false, w1, ⟨rfl, fun q => (by cases q), fun ⟨j', hj', q1, q2⟩ => ?_⟩, fun r w' h => sg_193_188 (d := d + 1) hS _ _ _ _ _ ⟨RM_out hR hi, fun q => absurd q hsz, fun _ => ⟨fun q => absurd rfl q, fun _ => ⟨fun _ => by rw [i_s]; exact h, fun q => ⟨RM_io hR hi (by omega), fun q2 => ?_, fun q2 => ⟨RM_io hR hi (by omega), ?_, fun _ => by rw [i_s]; exact h, fun q3 => ?_⟩⟩⟩⟩⟩⟩
          · by_cases e : j' = j
            · subst e; exact absurd q2 hc
            · exact absurd ⟨j', hj', by omega, q2⟩ hnb
          · rw [i_eq (by omega) (by omega)] at q
            rw [ea, f_163_n (by omega)] at q2
            exact absurd ⟨q, ltS_iff.mpr (Or.inl q2)⟩ hc
          · rw [ea, f_163_n (by omega)] at q2
            rw [ea]; exact o16 (by omega)
          · rw [i_eq (by omega) (by omega)] at q
            rw [ea, f_163_n (by omega)] at q2
            rw [BA_at hB ea (by omega)] at q3
            exact absurd ⟨q, ltS_iff.mpr (Or.inr (by simpa using q3))⟩ hc) G[i].2.length 0 false w (by omega) ⟨rfl, fun q => (by cases q), fun ⟨j', hj', q1, _⟩ => by omega⟩
  refine ⟨b, ?_, g1⟩
  rw [hb]
  exact ⟨fun ⟨j, hj, _, q⟩ => ⟨j, hj, q⟩, fun ⟨j, hj, q⟩ => ⟨j, hj, hj, q⟩⟩
/-- isEndless -/
theorem E193 (hS : gk_Sh rr w) (hR : RM w 4 28 G) : ∃ (b : Bool) (w' : gk_Wd), finR G (!b) ∧ gk_E (d + 2) 193 [.ref 27] w (.inl (some (.int (bI b)))) w' ∧ gk_Sh rr w' ∧ Fr [39, 40] [] w w' := by
  have h60 := RM_60 hR
  obtain ⟨S, w1, hW, e1, s1, f1, B1⟩ := E194 (d := d) hS hR
  obtain ⟨T, w2, hT, s2, f2, L2, g2⟩ := E193_a (d := d) s1 (RM_Fr hR f1 (by decide) (by simp))
  have R2 : RM w2 4 28 G := RM_Fr (RM_Fr hR f1 (by decide) (by simp)) f2 (by decide) (by simp)
  have B2 : BA w2 39 S := BA_congr B1 (Fr_a f2 (by decide))
  obtain ⟨b, w3, ⟨rfl, hb⟩, g3⟩ := up_loop (α := Bool) (d := d + 2) (mi := 193) (pc := 162) G.length (fun i b => [some (.ref 27), some (.int (bI b)), some (.int (Int32.ofNat i)), none, none, none])
    (fun i b w3 => w3 = w2 ∧ (b = true ↔ ∃ (j : Nat) (hj : j < G.length), j < i ∧ pmP T S G[j]))
    (fun i b w3 hi hI => by
      obtain ⟨rfl, hb⟩ := hI
      have hok := RM_ok R2 hi
      have h16 := hok.1
      have h10 := hok.2.1
      have el := RM_left R2 hi
      have hle : ¬ w_i w3 26 4 ≤ Int32.ofNat i := fun q => absurd ((RM_le R2 (by omega)).mp q) (by omega)
      obtain ⟨b2, w4, ⟨rfl, hb2⟩, g4⟩ := up_loop (α := Bool) (d := d + 2) (mi := 193) (pc := 172) G[i].2.length (fun k b => [some (.ref 27), some (.int (bI b)), some (.int (Int32.ofNat i)), some (.int (Int32.ofNat k)), none, none])
        (fun k b2 w4 => w4 = w3 ∧ (b2 = true ↔ b = true ∨ ∃ (k' : Nat) (hk : k' < G[i].2.length), k' < k ∧ G[i].2[k'] < 16 ∧ T G[i].2[k'] G[i].1 = true ∧ ∃ (j : Nat) (hj : j < G[i].2.length), j ≠ k' ∧ ltS S G[i].2[j] = true))
        (fun k b2 w4 hk hI => by
          obtain ⟨rfl, hb2⟩ := hI
          have ea := RM_at R2 hi hk
          have hsy := hok.2.2 _ (List.getElem_mem hk)
          have hsz : ¬ (w_a w4 29).getD (Int32.ofNat i).toNatClampNeg 0 ≤ Int32.ofNat k := fun q => absurd ((RM_sz R2 hi (by omega)).mp q) (by omega)
          have hsy2 : (w_a w4 29).getD (Int32.ofNat i).toNatClampNeg 0 ≤ Int32.ofNat G[i].2.length := (RM_sz R2 hi (by omega)).mpr (Nat.le_refl _)
          obtain ⟨c, hc, g5⟩ := E193_i (d := d) s2 R2 B2 hi hk (x1 := bI b2)
          have oL : G[i].2[k] < 16 → gk_out (16 * f_151 w4 (Int32.ofNat i) (Int32.ofNat k) + (w_a w4 28).getD (Int32.ofNat i).toNatClampNeg 0) 256 = false := fun h => by rw [ea, el]; exact ix16_o h h16
          have hTk : G[i].2[k] < 16 → ((w_a w4 40).getD (16 * f_151 w4 (Int32.ofNat i) (Int32.ofNat k) + (w_a w4 28).getD (Int32.ofNat i).toNatClampNeg 0).toNatClampNeg 0 = 0 ↔ T G[i].2[k] G[i].1 = false) := fun h => by rw [ea, el]; exact LM_0 L2 h h16
          have hstep : ∀ (P : Prop), (P ↔ G[i].2[k] < 16 ∧ T G[i].2[k] G[i].1 = true ∧ ∃ (j : Nat) (hj : j < G[i].2.length), j ≠ k ∧ ltS S G[i].2[j] = true) → ((b = true ∨ ∃ (k' : Nat) (hk : k' < G[i].2.length), k' < k + 1 ∧ G[i].2[k'] < 16 ∧ T G[i].2[k'] G[i].1 = true ∧ ∃ (j : Nat) (hj : j < G[i].2.length), j ≠ k' ∧ ltS S G[i].2[j] = true) ↔ b2 = true ∨ P) := fun P hP => by
            rw [hb2, hP]
            constructor
            · rintro (h | ⟨k', hk', h1, h2⟩)
              · exact Or.inl (Or.inl h)
              · by_cases e : k' = k
                · subst e; exact Or.inr h2
                · exact Or.inl (Or.inr ⟨k', hk', by omega, h2⟩)
            · rintro ((h | ⟨k', hk', h1, h2⟩) | h)
              · exact Or.inl h
              · exact Or.inr ⟨k', hk', by omega, h2⟩
              · exact Or.inr ⟨k, hk, by omega, h⟩
          by_cases hP : G[i].2[k] < 16 ∧ T G[i].2[k] G[i].1 = true ∧ ∃ (j : Nat) (hj : j < G[i].2.length), j ≠ k ∧ ltS S G[i].2[j] = true
          · obtain ⟨p1, p2, p3⟩ := hP
            have hct : c = true := hc.mpr p3
            subst hct
            refine ⟨true, w4, ⟨rfl, ?_⟩, fun r w' h => sg_193_172 (d := d + 1) s2 _ _ _ ⟨RM_out R2 hi, fun q => absurd q hsz, fun _ => g5 r w' (sg_193_188 (d := d + 1) s2 _ _ _ _ _ ⟨RM_out R2 hi, fun _ => ⟨RM_io R2 hi (by omega), fun q => ?_, fun _ => ⟨fun q => absurd q (by decide), fun _ => ⟨RM_io R2 hi (by omega), RM_out R2 hi, oL p1, fun q => ?_, fun _ => by rw [i_s]; exact h⟩⟩⟩, fun q => absurd hsy2 q⟩)⟩⟩
            · rw [hstep True ⟨fun _ => ⟨p1, p2, p3⟩, fun _ => trivial⟩]; simp
            · rw [ea, f_163_n (by omega)] at q; omega
            · rw [hTk p1, p2] at q; cases q
          · refine ⟨b2, w4, ⟨rfl, ?_⟩, fun r w' h => sg_193_172 (d := d + 1) s2 _ _ _ ⟨RM_out R2 hi, fun q => absurd q hsz, fun _ => g5 r w' (sg_193_188 (d := d + 1) s2 _ _ _ _ _ ⟨RM_out R2 hi, fun _ => ⟨RM_io R2 hi (by omega), fun q => by rw [i_s]; exact h, fun q => ⟨fun _ => by rw [i_s]; exact h, fun q2 => ⟨RM_io R2 hi (by omega), RM_out R2 hi, oL ?_, fun _ => by rw [i_s]; exact h, fun q3 => ?_⟩⟩⟩, fun q => absurd hsy2 q⟩)⟩⟩
            · rw [hstep False ⟨fun q => q.elim, fun q => absurd q hP⟩]; simp
            · rw [ea, f_163_n (by omega)] at q; omega
            · rw [ea, f_163_n (by omega)] at q
              have p1 : G[i].2[k] < 16 := by omega
              rw [hTk p1] at q3
              rw [bI_0] at q2
              exact absurd ⟨p1, by simpa using q3, hc.mp (by simpa using q2)⟩ hP) G[i].2.length 0 b w3 (by omega) ⟨rfl, fun h => Or.inl h, fun h => by
          rcases h with h | ⟨k', hk', h0, _⟩
          · exact h
          · omega⟩
      refine ⟨b2, w4, ⟨rfl, ?_⟩, fun r w' h => sg_193_162 (d := d + 1) s2 _ _ ⟨fun q => absurd q hle, fun _ => g4 r w' (sg_193_172 (d := d + 1) s2 _ _ _ ⟨RM_out R2 hi, fun _ => by rw [i_s]; exact h, fun q => absurd ((RM_sz R2 hi (by omega)).mpr (Nat.le_refl _)) q⟩)⟩⟩
      rw [hb2, hb]
      constructor
      · rintro (⟨j, hj, h1, h2⟩ | ⟨k, hk, _, h2⟩)
        · exact ⟨j, hj, by omega, h2⟩
        · exact ⟨i, hi, by omega, k, hk, h2⟩
      · rintro ⟨j, hj, h1, h2⟩
        by_cases e : j = i
        · subst e
          obtain ⟨k, hk, h3⟩ := h2
          exact Or.inr ⟨k, hk, hk, h3⟩
        · exact Or.inl ⟨j, hj, by omega, h2⟩) G.length 0 false w2 (by omega) ⟨rfl, fun q => (by cases q), fun ⟨j, hj, h0, _⟩ => by omega⟩
  refine ⟨b, w3, ⟨T, S, hT, hW, ?_⟩, gk_E_i rfl rfl (sg_193_0 (d := d + 1) hS ⟨w1, e1, s1, g2 _ _ (g3 _ _ (sg_193_162 (d := d + 1) s2 _ _ ⟨fun _ => ⟨bI_b _, rfl, rfl⟩, fun q => absurd ((RM_le R2 (by omega)).mpr (Nat.le_refl _)) q⟩))⟩), s2, Fr_trans (Fr_mono f1 (by simp) (by simp)) (Fr_mono f2 (by simp) (by simp))⟩
  have e : (∃ r ∈ G, pmP T S r) ↔ b = true := by
    rw [hb]
    constructor
    · rintro ⟨r, hr, h⟩
      obtain ⟨j, hj, rfl⟩ := List.mem_iff_getElem.mp hr
      exact ⟨j, hj, hj, h⟩
    · rintro ⟨j, hj, _, h⟩
      exact ⟨_, List.getElem_mem hj, h⟩
  rw [e]
  cases b <;> simp
end MG
