/-! part 62: first and follow: the reference -/
def ff (N : Nat → Bool) (F : Nat → Int32) (s : List Nat) : Int32 := la N F s ||| (if nlA N s = true then 64 else 0)
theorem lo_63 : ∀ s : Fin 6, ∀ c : Fin 32, 6 ≤ c.1 → bt ((1 : Int32) <<< ((Int32.ofNat (16 + s.1) - 16) &&& 31)) c.1 = false := by decide +kernel
theorem b63 : ∀ c : Fin 32, bt 63 c.1 = decide (c.1 < 6) := by decide
theorem lbB_63 {S : Nat → Bool} {c s : Nat} (hs : s < 22) (hc : 6 ≤ c) : lbB S c s = false := by
  unfold lbB
  by_cases h32 : c < 32
  · by_cases h : s < 16
    · rw [if_pos h, b63 ⟨c, h32⟩, decide_eq_false (by simp only; omega), Bool.and_false]
    · rw [if_neg h]
      have := lo_63 ⟨s - 16, by omega⟩ ⟨c, h32⟩ hc
      simp only at this
      rwa [show 16 + (s - 16) = s by omega] at this
  · by_cases h : s < 16
    · rw [if_pos h, bt_big _ (by omega), Bool.and_false]
    · rw [if_neg h, bt_big _ (by omega)]
theorem laB_63 {N S : Nat → Bool} {c : Nat} (hc : 6 ≤ c) : ∀ {s : List Nat}, (∀ x ∈ s, x < 22) → laB N S c s = false
  | [], _ => rfl
  | x :: s, h => by
    simp only [laB]
    rw [lbB_63 (h x List.mem_cons_self) hc, laB_63 hc (fun y hy => h y (List.mem_cons_of_mem _ hy))]
    simp
theorem la_63 {N : Nat → Bool} {F : Nat → Int32} {c : Nat} (hc : 6 ≤ c) {s : List Nat} (h : ∀ x ∈ s, x < 22) : bt (la N F s) c = false := by
  rw [bt_la]; exact laB_63 hc h
theorem and64 {x : Int32} : (x &&& 64) = 0 ↔ bt x 6 = false := by
  rw [bt_eq0]
  constructor
  · intro h
    have := h 6 (by omega)
    rw [bt_and, bt64 ⟨6, by omega⟩] at this
    simpa using this
  · intro h c hc
    rw [bt_and, bt64 ⟨c, hc⟩]
    by_cases e : c = 6
    · subst e; rw [h]; rfl
    · simp [e]
theorem bt_ff (N : Nat → Bool) (F : Nat → Int32) (s : List Nat) {c : Nat} (hc : c < 32) : bt (ff N F s) c = (bt (la N F s) c || (nlA N s && decide (c = 6))) := by
  unfold ff
  rw [bt_or]
  cases nlA N s with
  | true => rw [if_pos rfl, bt64 ⟨c, hc⟩, Bool.true_and]
  | false => rw [if_neg (by decide), bt_zero]; rfl
theorem ff_64 {N : Nat → Bool} {F : Nat → Int32} {s : List Nat} (h : ∀ x ∈ s, x < 22) : (ff N F s &&& 64) = 0 ↔ nlA N s = false := by
  rw [and64, bt_ff _ _ _ (by omega), la_63 (Nat.le_refl 6) h]
  simp
theorem ff_63 {N : Nat → Bool} {F : Nat → Int32} {s : List Nat} (h : ∀ x ∈ s, x < 22) : (ff N F s &&& 63) = la N F s := by
  refine bt_ext fun c hc => ?_
  rw [bt_and, bt_ff _ _ _ hc, b63 ⟨c, hc⟩]
  by_cases h6 : c < 6
  · rw [decide_eq_true h6, decide_eq_false (show ¬ c = 6 by omega)]; simp
  · rw [decide_eq_false h6, la_63 (by omega) h]; simp
theorem ff_n {N : Nat → Bool} {F : Nat → Int32} {s : List Nat} (h : nlA N s = false) : ff N F s = la N F s := by
  unfold ff
  rw [h, if_neg (by decide)]
  refine bt_ext fun c _ => ?_
  rw [bt_or, bt_zero, Bool.or_false]
theorem beh_n {N : Nat → Bool} {F : Nat → Int32} {s : List Nat} (h : nlA N s = false) (b : Int32) : beh N F b s = la N F s := by
  unfold beh
  rw [h, if_neg (by decide)]
  refine bt_ext fun c _ => ?_
  rw [bt_or, bt_zero, Bool.or_false]
theorem beh_t {N : Nat → Bool} {F : Nat → Int32} {s : List Nat} (h : nlA N s = true) (b : Int32) : beh N F b s = la N F s ||| b := by
  unfold beh
  rw [h, if_pos rfl]
theorem nlA_fire {N : Nat → Bool} {r : Rl} : nlA N r.2 = true ↔ fire false N r := by
  unfold nlA fire
  rw [List.all_eq_true]
  refine forall_congr' fun x => forall_congr' fun hx => ?_
  rw [Bool.and_eq_true, decide_eq_true_eq]
  constructor
  · rintro ⟨h1, h2⟩
    exact ⟨fun _ => h2, fun q => by omega⟩
  · rintro ⟨h1, h2⟩
    have h16 : x < 16 := Nat.lt_of_not_le fun q => absurd (h2 q) (by decide)
    exact ⟨h16, h1 h16⟩
theorem sfx_drop {s : List Nat} {k : Nat} (hk : k < s.length) : sfx (s.drop k) = (s[k], s.drop (k + 1)) :: sfx (s.drop (k + 1)) := by
  rw [List.drop_eq_getElem_cons hk]; rfl
theorem efl_drop {G : List Rl} {k : Nat} (hk : k < G.length) : efl (G.drop k) = (sfx G[k].2).map (fun e => (G[k].1, e)) ++ efl (G.drop (k + 1)) := by
  unfold efl
  rw [List.drop_eq_getElem_cons hk, List.flatMap_cons]
section MK2
variable {d : Nat} {rr : List gk_S} {w : gk_Wd} {G : List Rl} {N : Nat → Bool} {F W : Nat → Int32}
theorem f_198_F (hF : TB w 41 F) {s : Nat} (hs : s < 22) : f_198 w (Int32.ofNat s) &&& 63 = lo F s := by
  unfold f_198 lo
  by_cases h : s < 16
  · rw [if_neg (by rw [f_163_n (by omega)]; omega), if_pos h, TB_at hF rfl h]
  · rw [if_pos (by rw [f_163_n (by omega)]; omega), if_neg h]
    refine bt_ext fun c hc => ?_
    rw [bt_and, b63 ⟨c, hc⟩]
    by_cases h6 : c < 6
    · rw [decide_eq_true h6, Bool.and_true]
    · have := lo_63 ⟨s - 16, by omega⟩ ⟨c, hc⟩ (by simp only; omega)
      simp only at this
      rw [show 16 + (s - 16) = s by omega] at this
      rw [this]; rfl
/-- firstFrom -/
theorem E197_l (hS : gk_Sh rr w) (hR : RM w 4 28 G) (hN : BA w 38 N) (hF : TB w 41 F) {i : Nat} (hi : i < G.length) : ∀ (m k : Nat) (x : Int32), k + m = G[i].2.length → gk_W none (d + 2) 197 5 [some (.ref 27), some (.int (Int32.ofNat i)), none, some (.int x), some (.int (Int32.ofNat k))] [] w (.inl (some (.int (x ||| ff N F (G[i].2.drop k))))) w
  | 0, k, x, hk => by
    have h10 := (RM_ok hR hi).2.1
    have e : x ||| ff N F (G[i].2.drop k) = x ||| 64 := by
      rw [List.drop_eq_nil_of_le (by omega)]
      refine bt_ext fun c hc => ?_
      rw [bt_or, bt_or, bt_ff _ _ _ hc, bt64 ⟨c, hc⟩]
      simp [la, nlA, bt_zero]
    rw [e]
    exact sg_197_5 (d := d) hS _ _ _ ⟨RM_out hR hi, fun _ => ⟨rfl, rfl⟩, fun q => absurd ((RM_sz hR hi (by omega)).mpr (by omega)) q⟩
  | m + 1, k, x, hk => by
    have hok := RM_ok hR hi
    have h10 := hok.2.1
    have hkl : k < G[i].2.length := by omega
    have hs := hok.2.2 _ (List.getElem_mem hkl)
    have ea := RM_at hR hi hkl
    have e198 : f_198 w (f_151 w (Int32.ofNat i) (Int32.ofNat k)) &&& 63 = lo F G[i].2[k] := by rw [ea]; exact f_198_F hF hs
    have hsz : ¬ (w_a w 29).getD (Int32.ofNat i).toNatClampNeg 0 ≤ Int32.ofNat k := fun q => absurd ((RM_sz hR hi (by omega)).mp q) (by omega)
    have oi : gk_out (10 * Int32.ofNat i + Int32.ofNat k) 640 = false := RM_io hR hi (by omega)
    have ed : G[i].2.drop k = G[i].2[k] :: G[i].2.drop (k + 1) := List.drop_eq_getElem_cons hkl
    rw [ed]
    by_cases hv : G[i].2[k] < 16 ∧ N G[i].2[k] = true
    · have e : x ||| ff N F (G[i].2[k] :: G[i].2.drop (k + 1)) = x ||| lo F G[i].2[k] ||| ff N F (G[i].2.drop (k + 1)) := by
        refine bt_ext fun c hc => ?_
        rw [bt_or, bt_or, bt_or, bt_ff _ _ _ hc, bt_ff _ _ _ hc]
        have : nlA N (G[i].2[k] :: G[i].2.drop (k + 1)) = nlA N (G[i].2.drop (k + 1)) := by
          unfold nlA; rw [List.all_cons, decide_eq_true hv.1, hv.2]; rfl
        rw [this]
        simp only [la, if_pos hv]
        rw [bt_or, Bool.or_assoc, Bool.or_assoc]
      rw [e]
      have ih := E197_l hS hR hN hF hi m (k + 1) (x ||| lo F G[i].2[k]) (by omega)
      refine sg_197_5 (d := d) hS _ _ _ ⟨RM_out hR hi, fun q => absurd q hsz, fun _ => ⟨oi, fun _ => ?_, oi, fun q => ?_, fun q => ⟨oi, ?_, fun _ => ?_, fun q2 => ?_⟩⟩⟩
      · rw [ea]; exact o16 hv.1
      · rw [ea, f_163_n (by omega)] at q; omega
      · rw [ea]; exact o16 hv.1
      · rw [e198, i_s]; exact ih
      · rw [BA_at hN ea hv.1, hv.2] at q2; cases q2
    · have e : x ||| ff N F (G[i].2[k] :: G[i].2.drop (k + 1)) = x ||| lo F G[i].2[k] := by
        refine bt_ext fun c hc => ?_
        have h1 : nlA N (G[i].2[k] :: G[i].2.drop (k + 1)) = false := by
          unfold nlA
          rw [List.all_cons]
          by_cases h1 : G[i].2[k] < 16
          · have : N G[i].2[k] = false := by
              rcases hb : N G[i].2[k] with _ | _
              · rfl
              · exact absurd ⟨h1, hb⟩ hv
            simp [this]
          · simp [h1]
        rw [bt_or, bt_or, bt_ff _ _ _ hc, h1]
        simp only [la, if_neg hv]
        rw [bt_or, bt_zero]; simp
      rw [e]
      refine sg_197_5 (d := d) hS _ _ _ ⟨RM_out hR hi, fun q => absurd q hsz, fun _ => ⟨oi, fun q => ?_, oi, fun q => ⟨by rw [e198], rfl⟩, fun q => ⟨oi, ?_, fun q2 => ?_, fun q2 => ⟨by rw [e198], rfl⟩⟩⟩⟩
      · rw [ea, f_163_n (by omega)] at q
        rw [ea]; exact o16 (by omega)
      · rw [ea, f_163_n (by omega)] at q
        rw [ea]; exact o16 (by omega)
      · rw [ea, f_163_n (by omega)] at q
        have h16 : G[i].2[k] < 16 := by omega
        rw [BA_at hN ea h16] at q2
        exact absurd ⟨h16, by simpa using q2⟩ hv
theorem E197 (hS : gk_Sh rr w) (hR : RM w 4 28 G) (hN : BA w 38 N) (hF : TB w 41 F) {i : Nat} (hi : i < G.length) {k : Nat} (hk : k ≤ G[i].2.length) : gk_E (d + 2) 197 [.ref 27, .int (Int32.ofNat i), .int (Int32.ofNat k)] w (.inl (some (.int (ff N F (G[i].2.drop k))))) w := by
  have := E197_l (d := d) hS hR hN hF hi (G[i].2.length - k) k 0 (by omega)
  have e : (0 : Int32) ||| ff N F (G[i].2.drop k) = ff N F (G[i].2.drop k) := by
    refine bt_ext fun c _ => ?_
    rw [bt_or, bt_zero, Bool.false_or]
  rw [e] at this
  exact gk_E_i rfl rfl (sg_197_0 (d := d) hS _ _ this)
theorem i18 {k : Nat} (h : k < 18) : ¬ (18 : Int32) ≤ Int32.ofNat k := fun q => absurd ((i_le (a := 18) (by omega) (by omega)).mp q) (by omega)
/-- findFirsts -/
theorem E196 (hS : gk_Sh rr w) (hR : RM w 4 28 G) : ∃ (N : Nat → Bool) (w' : gk_Wd), isP false G N ∧ gk_E (d + 3) 196 [.ref 27] w (.inl none) w' ∧ gk_Sh rr w' ∧ Fr [38, 41] [] w w' ∧ BA w' 38 N ∧ TB w' 41 (Fst N G) := by
  have h60 := RM_60 hR
  obtain ⟨w1, N, e1, s1, f1, B1, P1⟩ := E169 (d := d) hS hR
  obtain ⟨-, w2, ⟨s2, f2, h2⟩, g2⟩ := up_loop (α := Unit) (d := d + 3) (mi := 196) (pc := 6) 16 (fun k _ => [some (.ref 27), some (.int (Int32.ofNat k)), none])
    (fun k _ w2 => gk_Sh rr w2 ∧ Fr [41] [] w1 w2 ∧ ∀ v, v < k → (w_a w2 41).getD v 0 = fF0 N v)
    (fun k _ w2 hk hI => by
      obtain ⟨s2, f2, h2⟩ := hI
      have l41 := (w_int s2 ly_41).2
      have B2 : BA w2 38 N := BA_congr B1 (Fr_a f2 (by decide))
      have eb : (w_a w2 38).getD (Int32.ofNat k).toNatClampNeg 0 = 0 ↔ N k = false := BA_at B2 rfl hk
      have key : ∀ x : Int32, x = fF0 N k → gk_Sh rr (w_sa w2 41 ((w_a w2 41).set k x)) ∧ Fr [41] [] w1 (w_sa w2 41 ((w_a w2 41).set k x)) ∧ ∀ v, v < k + 1 → (w_a (w_sa w2 41 ((w_a w2 41).set k x)) 41).getD v 0 = fF0 N v := fun x hx => by
        refine ⟨sh_as s2 ly_41 k x, Fr_trans f2 (Fr_sa (by simp) _), fun v hv => ?_⟩
        rw [w_a_same s2 ly_41, getD_set32 _ (by omega)]
        by_cases e : v = k
        · rw [if_pos e, hx, e]
        · rw [if_neg e]; exact h2 v (by omega)
      cases hb : N k with
      | false =>
        refine ⟨(), _, key 0 (by unfold fF0; rw [if_neg (by rw [hb]; simp)]), fun r w' h => sg_196_6 (d := d + 2) s2 _ ⟨fun q => absurd q (n16 hk), fun _ => ⟨o16 hk, fun _ => ⟨o16 hk, by rw [i_nat (by omega), i_s]; exact h⟩, fun q => absurd (eb.mpr hb) q⟩⟩⟩
      | true =>
        refine ⟨(), _, key 64 (by unfold fF0; rw [if_pos ⟨hk, hb⟩]), fun r w' h => sg_196_6 (d := d + 2) s2 _ ⟨fun q => absurd q (n16 hk), fun _ => ⟨o16 hk, fun q => ?_, fun _ => ⟨o16 hk, by rw [i_nat (by omega), i_s]; exact h⟩⟩⟩⟩
        rw [eb, hb] at q; cases q) 16 0 () w1 (by omega) ⟨s1, Fr_refl, fun v hv => by omega⟩
  have R2 : RM w2 4 28 G := RM_Fr (RM_Fr hR f1 (by decide) (by simp)) f2 (by decide) (by simp)
  have B2 : BA w2 38 N := BA_congr B1 (Fr_a f2 (by decide))
  obtain ⟨-, w3, ⟨s3, f3, h3, n3⟩, g3⟩ := up_loop (α := Unit) (d := d + 3) (mi := 196) (pc := 41) 18 (fun k _ => [some (.ref 27), some (.int (Int32.ofNat k)), none])
    (fun n _ w3 => gk_Sh rr w3 ∧ Fr [41] [] w2 w3 ∧ TB w3 41 (rnd (R1 N G) n (fF0 N)) ∧ ∀ v, v < 16 → N v = true → bt (rnd (R1 N G) n (fF0 N) v) 6 = true)
    (fun n _ w3 hn hI => by
      obtain ⟨s3, f3, h3, n3⟩ := hI
      generalize hF0 : rnd (R1 N G) n (fF0 N) = F at h3 n3
      obtain ⟨-, w4, ⟨s4, f4, h4, n4⟩, g4⟩ := up_loop (α := Unit) (d := d + 3) (mi := 196) (pc := 49) G.length (fun k _ => [some (.ref 27), some (.int (Int32.ofNat n)), some (.int (Int32.ofNat k))])
        (fun k _ w4 => gk_Sh rr w4 ∧ Fr [41] [] w2 w4 ∧ TB w4 41 ((G.take k).foldl (fS N) F) ∧ ∀ v, v < 16 → N v = true → bt ((G.take k).foldl (fS N) F v) 6 = true)
        (fun k _ w4 hk hI => by
          obtain ⟨s4, f4, h4, n4⟩ := hI
          have R4 : RM w4 4 28 G := RM_Fr R2 f4 (by decide) (by simp)
          have B4 : BA w4 38 N := BA_congr B2 (Fr_a f4 (by decide))
          have hok := RM_ok R4 hk
          have h16 := hok.1
          have el := RM_left R4 hk
          have hle : ¬ w_i w4 26 4 ≤ Int32.ofNat k := fun q => absurd ((RM_le R4 (by omega)).mp q) (by omega)
          have ol : gk_out ((w_a w4 28).getD (Int32.ofNat k).toNatClampNeg 0) 16 = false := by rw [el]; exact o16 h16
          generalize hF1 : (G.take k).foldl (fS N) F = F1 at h4 n4
          have et : (G.take (k + 1)).foldl (fS N) F = fS N F1 G[k] := by
            rw [List.take_succ_eq_append_getElem hk, List.foldl_append, hF1]; rfl
          have e197 := E197 (d := d) s4 R4 B4 h4 hk (k := 0) (by omega)
          have eF : (w_a w4 41).getD ((w_a w4 28).getD (Int32.ofNat k).toNatClampNeg 0).toNatClampNeg 0 = F1 G[k].1 := TB_at h4 el h16
          have ev : F1 G[k].1 ||| ff N F1 (G[k].2.drop 0) = F1 G[k].1 ||| la N F1 G[k].2 := by
            rw [List.drop_zero]
            refine bt_ext fun c hc => ?_
            rw [bt_or, bt_or, bt_ff _ _ _ hc]
            cases hn : nlA N G[k].2 with
            | false => simp
            | true =>
              by_cases e : c = 6
              · subst e
                have : N G[k].1 = true := P1.1 _ (List.getElem_mem hk) (nlA_fire.mp hn)
                rw [n4 _ h16 this]; simp
              · simp [e]
          refine ⟨(), _, ⟨sh_as s4 ly_41 G[k].1 (F1 G[k].1 ||| la N F1 G[k].2), Fr_trans f4 (Fr_sa (by simp) _), ?_, fun v hv hNv => ?_⟩, fun r w' h => sg_196_49 (d := d + 2) s4 _ _ ⟨fun q => absurd q hle, fun _ => ⟨RM_out R4 hk, RM_out R4 hk, ol, _, e197, ol, ?_⟩⟩⟩
          · rw [et]; exact TB_set s4 ly_41 h4 h16 _
          · rw [et]
            unfold fS tU
            by_cases e : v = G[k].1
            · rw [if_pos e, bt_or, ← e, n4 v hv hNv]; rfl
            · rw [if_neg e]; exact n4 v hv hNv
          · rw [eF, ev, el, i_nat (by omega), i_s]; exact h) G.length 0 () w3 (by omega) ⟨s3, f3, h3, n3⟩
      rw [List.take_of_length_le (Nat.le_refl _)] at h4 n4
      have R4 : RM w4 4 28 G := RM_Fr R2 f4 (by decide) (by simp)
      refine ⟨(), w4, ⟨s4, f4, by subst hF0; exact h4, by subst hF0; exact n4⟩, fun r w' h => sg_196_41 (d := d + 2) s3 _ ⟨fun q => absurd q (i18 hn), fun _ => g4 r w' (sg_196_49 (d := d + 2) s4 _ _ ⟨fun _ => by rw [i_s]; exact h, fun q => absurd ((RM_le R4 (by omega)).mpr (Nat.le_refl _)) q⟩)⟩⟩) 18 0 () w2 (by omega) ⟨s2, Fr_refl, h2, fun v hv hNv => by
      show bt (fF0 N v) 6 = true
      unfold fF0; rw [if_pos ⟨hv, hNv⟩]; rfl⟩
  have eF := rnd_end (f := R1 N G) (x := fF0 N) (k := 18) (n := 17) (Fst_fix hR.2.2.1) (Or.inr (by omega))
  rw [eF] at h3
  exact ⟨N, w3, P1, gk_E_i rfl rfl (sg_196_0 (d := d + 2) hS ⟨w1, e1, s1, g2 _ _ (sg_196_6 (d := d + 2) s2 _ ⟨fun _ => g3 _ _ (sg_196_41 (d := d + 2) s3 _ ⟨fun _ => ⟨rfl, rfl⟩, fun q => absurd (by decide) q⟩), fun q => absurd y16 q⟩)⟩), s3, Fr_trans (Fr_mono f1 (by simp) (by simp)) (Fr_trans (Fr_mono f2 (by simp) (by simp)) (Fr_mono f3 (by simp) (by simp))), BA_congr B2 (Fr_a f3 (by decide)), h3⟩
/-- findFollows -/
theorem E200 (hS : gk_Sh rr w) (hR : RM w 4 28 G) : ∃ (N : Nat → Bool) (W : Nat → Int32) (w' : gk_Wd), isP false G N ∧ isFo N (Fst N G) G W ∧ gk_E (d + 4) 200 [.ref 27] w (.inl none) w' ∧ gk_Sh rr w' ∧ Fr [38, 41, 42] [] w w' ∧ BA w' 38 N ∧ TB w' 41 (Fst N G) ∧ TB w' 42 W := by
  have h60 := RM_60 hR
  obtain ⟨N, w1, P1, e1, s1, f1, B1, T1⟩ := E196 (d := d) hS hR
  obtain ⟨-, w2, ⟨s2, f2, h2⟩, g2⟩ := up_loop (α := Unit) (d := d + 4) (mi := 200) (pc := 6) 16 (fun k _ => [some (.ref 27), some (.int (Int32.ofNat k)), none, none, none, none])
    (fun k _ w2 => gk_Sh rr w2 ∧ Fr [42] [] w1 w2 ∧ ∀ v, v < k → (w_a w2 42).getD v 0 = W0 v)
    (fun k _ w2 hk hI => by
      obtain ⟨s2, f2, h2⟩ := hI
      have l42 := (w_int s2 ly_42).2
      have key : ∀ x : Int32, x = W0 k → gk_Sh rr (w_sa w2 42 ((w_a w2 42).set k x)) ∧ Fr [42] [] w1 (w_sa w2 42 ((w_a w2 42).set k x)) ∧ ∀ v, v < k + 1 → (w_a (w_sa w2 42 ((w_a w2 42).set k x)) 42).getD v 0 = W0 v := fun x hx => by
        refine ⟨sh_as s2 ly_42 k x, Fr_trans f2 (Fr_sa (by simp) _), fun v hv => ?_⟩
        rw [w_a_same s2 ly_42, getD_set32 _ (by omega)]
        by_cases e : v = k
        · rw [if_pos e, hx, e]
        · rw [if_neg e]; exact h2 v (by omega)
      have e0 : Int32.ofNat k = 0 ↔ k = 0 := i_eq (b := 0) (by omega) (by omega)
      by_cases hk0 : k = 0
      · refine ⟨(), _, key 64 (by unfold W0; rw [if_pos hk0]), fun r w' h => sg_200_6 (d := d + 3) s2 _ ⟨fun q => absurd q (n16 hk), fun _ => ⟨fun q => absurd (e0.mpr hk0) q, fun _ => ⟨o16 hk, by rw [i_nat (by omega), i_s]; exact h⟩⟩⟩⟩
      · refine ⟨(), _, key 0 (by unfold W0; rw [if_neg hk0]), fun r w' h => sg_200_6 (d := d + 3) s2 _ ⟨fun q => absurd q (n16 hk), fun _ => ⟨fun _ => ⟨o16 hk, by rw [i_nat (by omega), i_s]; exact h⟩, fun q => absurd (e0.mp q) hk0⟩⟩⟩) 16 0 () w1 (by omega) ⟨s1, Fr_refl, fun v hv => by omega⟩
  have R2' : RM w2 4 28 G := RM_Fr (RM_Fr hR f1 (by decide) (by simp)) f2 (by decide) (by simp)
  have B2 : BA w2 38 N := BA_congr B1 (Fr_a f2 (by decide))
  have T2 : TB w2 41 (Fst N G) := TB_congr T1 (Fr_a f2 (by decide))
  generalize hFe : Fst N G = F at T1 T2
  obtain ⟨-, w3, ⟨s3, f3, h3⟩, g3⟩ := up_loop (α := Unit) (d := d + 4) (mi := 200) (pc := 36) 18 (fun k _ => [some (.ref 27), some (.int (Int32.ofNat k)), none, none, none, none])
    (fun n _ w3 => gk_Sh rr w3 ∧ Fr [42] [] w2 w3 ∧ TB w3 42 (rnd (fun W => (efl G).foldl (mW N F) W) n W0))
    (fun n _ w3 hn hI => by
      obtain ⟨s3, f3, h3⟩ := hI
      obtain ⟨W4, w4, ⟨s4, f4, h4, p4⟩, g4⟩ := up_loop (α := Nat → Int32) (d := d + 4) (mi := 200) (pc := 44) G.length (fun k _ => [some (.ref 27), some (.int (Int32.ofNat n)), some (.int (Int32.ofNat k)), none, none, none])
        (fun k W' w4 => gk_Sh rr w4 ∧ Fr [42] [] w2 w4 ∧ TB w4 42 W' ∧ (efl (G.drop k)).foldl (mW N F) W' = rnd (fun W => (efl G).foldl (mW N F) W) (n + 1) W0)
        (fun k W' w4 hk hI => by
          obtain ⟨s4, f4, h4, p4⟩ := hI
          have R4 : RM w4 4 28 G := RM_Fr R2' f4 (by decide) (by simp)
          have hok := RM_ok R4 hk
          have h16 := hok.1
          have h10 := hok.2.1
          have hle : ¬ w_i w4 26 4 ≤ Int32.ofNat k := fun q => absurd ((RM_le R4 (by omega)).mp q) (by omega)
          rw [efl_drop hk, List.foldl_append] at p4
          obtain ⟨W5, w5, ⟨s5, f5, h5, p5⟩, g5⟩ := up_loop (α := Nat → Int32) (d := d + 4) (mi := 200) (pc := 54) G[k].2.length (fun j _ => [some (.ref 27), some (.int (Int32.ofNat n)), some (.int (Int32.ofNat k)), some (.int (Int32.ofNat j)), none, none])
            (fun j W'' w5 => gk_Sh rr w5 ∧ Fr [42] [] w2 w5 ∧ TB w5 42 W'' ∧ ((sfx (G[k].2.drop j)).map fun e => (G[k].1, e)).foldl (mW N F) W'' = ((sfx G[k].2).map fun e => (G[k].1, e)).foldl (mW N F) W')
            (fun j W'' w5 hj hI => by
              obtain ⟨s5, f5, h5, p5⟩ := hI
              have R5 : RM w5 4 28 G := RM_Fr R2' f5 (by decide) (by simp)
              have B5 : BA w5 38 N := BA_congr B2 (Fr_a f5 (by decide))
              have T5 : TB w5 41 F := TB_congr T2 (Fr_a f5 (by decide))
              have ea := RM_at R5 hk hj
              have el := RM_left R5 hk
              have hsy := hok.2.2 _ (List.getElem_mem hj)
              have hsz : ¬ (w_a w5 29).getD (Int32.ofNat k).toNatClampNeg 0 ≤ Int32.ofNat j := fun q => absurd ((RM_sz R5 hk (by omega)).mp q) (by omega)
              have oi : gk_out (10 * Int32.ofNat k + Int32.ofNat j) 640 = false := RM_io R5 hk (by omega)
              rw [sfx_drop hj, List.map_cons, List.foldl_cons] at p5
              have h22 : ∀ x ∈ G[k].2.drop (j + 1), x < 22 := fun x hx => hok.2.2 x (List.mem_of_mem_drop hx)
              by_cases hv : G[k].2[j] < 16
              · have em : mW N F W'' (G[k].1, G[k].2[j], G[k].2.drop (j + 1)) = tU W'' G[k].2[j] (W'' G[k].2[j] ||| beh N F (W'' G[k].1) (G[k].2.drop (j + 1))) := if_pos hv
                rw [em] at p5
                have e197 := E197 (d := d + 1) s5 R5 B5 T5 hk (k := j + 1) (by omega)
                have oa : gk_out (f_151 w5 (Int32.ofNat k) (Int32.ofNat j)) 16 = false := by rw [ea]; exact o16 hv
                have ol : gk_out ((w_a w5 28).getD (Int32.ofNat k).toNatClampNeg 0) 16 = false := by rw [el]; exact o16 h16
                have eW : (w_a w5 42).getD (f_151 w5 (Int32.ofNat k) (Int32.ofNat j)).toNatClampNeg 0 = W'' G[k].2[j] := TB_at h5 ea hv
                have eL : (w_a w5 42).getD ((w_a w5 28).getD (Int32.ofNat k).toNatClampNeg 0).toNatClampNeg 0 = W'' G[k].1 := TB_at h5 el h16
                refine ⟨_, _, ⟨sh_as s5 ly_42 G[k].2[j] _, Fr_trans f5 (Fr_sa (by simp) _), TB_set s5 ly_42 h5 hv _, p5⟩, fun r w' h => sg_200_54 (d := d + 3) s5 _ _ _ ⟨RM_out R5 hk, fun q => absurd q hsz, fun _ => ⟨oi, fun _ => ⟨_, by rw [i_s]; exact e197, fun q => ⟨oi, oi, oa, oa, ?_⟩, fun q => ⟨RM_out R5 hk, ol, oi, oi, oa, oa, ?_⟩⟩, fun q => ?_⟩⟩⟩
                · rw [ff_64 h22] at q
                  rw [beh_n q] at h
                  rw [eW, ff_63 h22, ea, i_nat (by omega), i_s]; exact h
                · rw [ff_64 h22] at q
                  rw [beh_t (by simpa using q)] at h
                  rw [eW, eL, ff_63 h22, ea, i_nat (by omega), i_s]; exact h
                · rw [ea, f_163_n (by omega)] at q; omega
              · have em : mW N F W'' (G[k].1, G[k].2[j], G[k].2.drop (j + 1)) = W'' := if_neg hv
                rw [em] at p5
                refine ⟨W'', w5, ⟨s5, f5, h5, p5⟩, fun r w' h => sg_200_54 (d := d + 3) s5 _ _ _ ⟨RM_out R5 hk, fun q => absurd q hsz, fun _ => ⟨oi, fun q => ?_, fun _ => by rw [i_s]; exact h⟩⟩⟩
                rw [ea, f_163_n (by omega)] at q; omega) G[k].2.length 0 W' w4 (by omega) ⟨s4, f4, h4, rfl⟩
          rw [List.drop_eq_nil_of_le (Nat.le_refl _)] at p5
          have p6 : W5 = ((sfx G[k].2).map fun e => (G[k].1, e)).foldl (mW N F) W' := p5
          have R5 : RM w5 4 28 G := RM_Fr R2' f5 (by decide) (by simp)
          refine ⟨W5, w5, ⟨s5, f5, h5, by rw [p6]; exact p4⟩, fun r w' h => sg_200_44 (d := d + 3) s4 _ _ ⟨fun q => absurd q hle, fun _ => g5 r w' (sg_200_54 (d := d + 3) s5 _ _ _ ⟨RM_out R5 hk, fun _ => by rw [i_s]; exact h, fun q => absurd ((RM_sz R5 hk (by omega)).mpr (Nat.le_refl _)) q⟩)⟩⟩) G.length 0 _ w3 (by omega) ⟨s3, f3, h3, rfl⟩
      rw [List.drop_eq_nil_of_le (Nat.le_refl _)] at p4
      have p5 : W4 = rnd (fun W => (efl G).foldl (mW N F) W) (n + 1) W0 := p4
      have R4 : RM w4 4 28 G := RM_Fr R2' f4 (by decide) (by simp)
      exact ⟨(), w4, ⟨s4, f4, by rw [← p5]; exact h4⟩, fun r w' h => sg_200_36 (d := d + 3) s3 _ ⟨fun q => absurd q (i18 hn), fun _ => g4 r w' (sg_200_44 (d := d + 3) s4 _ _ ⟨fun _ => by rw [i_s]; exact h, fun q => absurd ((RM_le R4 (by omega)).mpr (Nat.le_refl _)) q⟩)⟩⟩) 18 0 () w2 (by omega) ⟨s2, Fr_refl, h2⟩
  subst hFe
  exact ⟨N, _, w3, P1, fun c => mQ (by omega) c, gk_E_i rfl rfl (sg_200_0 (d := d + 3) hS ⟨w1, e1, s1, g2 _ _ (sg_200_6 (d := d + 3) s2 _ ⟨fun _ => g3 _ _ (sg_200_36 (d := d + 3) s3 _ ⟨fun _ => ⟨rfl, rfl⟩, fun q => absurd (by decide) q⟩), fun q => absurd y16 q⟩)⟩), s3, Fr_trans (Fr_mono f1 (by simp) (by simp)) (Fr_trans (Fr_mono f2 (by simp) (by simp)) (Fr_mono f3 (by simp) (by simp))), BA_congr B2 (Fr_a f3 (by decide)), TB_congr T2 (Fr_a f3 (by decide)), h3⟩
end MK2
