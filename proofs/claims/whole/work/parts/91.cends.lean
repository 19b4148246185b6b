/-! part 65: isProduced of the class -/
theorem bne_bit {x y : Int32} (h : ¬ x ||| y = x) : ∃ c, bt x c = false ∧ bt (x ||| y) c = true := by
  refine Classical.byContradiction fun hc => h (ble_anti _ _ (fun c hb => ?_) (ble_or x y))
  rcases hx : bt x c with _ | _
  · exact absurd ⟨c, hx, hb⟩ hc
  · rfl
theorem ble_of_or {x y : Int32} (h : x ||| y = x) : ble y x := fun c hc => by
  rw [← h, bt_or, hc, Bool.or_true]
theorem ble_or2 {x y z : Int32} (h : ble x z) (h' : ble y z) : ble (x ||| y) z := fun c hc => by
  rw [bt_or, Bool.or_eq_true] at hc
  rcases hc with hc | hc
  · exact h c hc
  · exact h' c hc
section PE
variable {d : Nat} {rr : List gk_S} {w : gk_Wd} {wd : List Nat} {E : Nat → Nat → Int32} {G : List Rl}
theorem WC_Fr {w' : gk_Wd} (h : WC w wd) {A : List Nat} {F : List (Nat × Nat)} (f : Fr A F w w') (h1 : 20 ∉ A) (h2 : (19, 1) ∉ F) : WC w' wd := ⟨by rw [Fr_i f h2]; exact h.1, h.2.1, h.2.2.1, by rw [Fr_a f h1]; exact h.2.2.2⟩
theorem WM_Fr {w' : gk_Wd} (h : WM w wd) {A : List Nat} {F : List (Nat × Nat)} (f : Fr A F w w') (h1 : 43 ∉ A) (h2 : (26, 24) ∉ F) : WM w' wd := ⟨by rw [Fr_i f h2]; exact h.1, h.2.1, h.2.2.1, by rw [Fr_a f h1]; exact h.2.2.2⟩
/-- growEnds -/
theorem E74 (hS : gk_Sh rr w) (hR : RS w 3 G) (hW : WC w wd) (hE : TE w 21 E) (hb : bnd wd E) {p : Nat} (hp : p ≤ wd.length) : ∃ (g : Bool) (E' : Nat → Nat → Int32) (w' : gk_Wd), gk_E (d + 3) 74 [.ref 20, .ref 4, .int (Int32.ofNat p)] w (.inl (some (.int (bI g)))) w' ∧ gk_Sh rr w' ∧ Fr [21] [] w w' ∧ TE w' 21 E' ∧ bnd wd E' ∧ tle E E' ∧ (∀ v q, q ≠ p → E' v q = E v q) ∧ (∀ T, clE wd G T → tle E T → tle E' T) ∧ (g = false → E' = E ∧ ∀ r ∈ G, ble (row wd E r.2 (bp p)) (E r.1 p)) ∧ (g = true → ∃ v c, bt (E v p) c = false ∧ bt (E' v p) c = true) := by
  have h60 := RS_60 hR
  have hL := hW.2.1
  obtain ⟨⟨g, E1⟩, w1, ⟨s1, f1, h1, b1, l1, o1, t1, z1, y1⟩, g1⟩ := up_loop (α := Bool × (Nat → Nat → Int32)) (d := d + 3) (mi := 74) (pc := 5) G.length (fun k a => [some (.ref 20), some (.ref (3 + 1)), some (.int (Int32.ofNat p)), some (.int (bI a.1)), some (.int (Int32.ofNat k)), none, none])
    (fun k a w1 => gk_Sh rr w1 ∧ Fr [21] [] w w1 ∧ TE w1 21 a.2 ∧ bnd wd a.2 ∧ tle E a.2 ∧ (∀ v q, q ≠ p → a.2 v q = E v q) ∧ (∀ T, clE wd G T → tle E T → tle a.2 T) ∧ (a.1 = false → a.2 = E ∧ ∀ (j : Nat) (hj : j < G.length), j < k → ble (row wd E G[j].2 (bp p)) (E G[j].1 p)) ∧ (a.1 = true → ∃ v c, bt (E v p) c = false ∧ bt (a.2 v p) c = true))
    (fun k a w1 hk hI => by
      obtain ⟨g, E1⟩ := a
      obtain ⟨s1, f1, h1, b1, l1, o1, t1, z1, y1⟩ := hI
      simp only at h1 b1 l1 o1 t1 z1 y1
      have R1 : RS w1 3 G := RS_Fr hR f1 (by decide) (by simp)
      have W1 := WC_Fr hW f1 (by decide) (by simp)
      have ef := RS_f23 R1 hk
      have hok := RS_ok R1 hk
      have h16 := hok.1
      have hle : ¬ f_13 w1 3 ≤ Int32.ofNat k := fun q => absurd ((RS_le R1 (by omega)).mp q) (by omega)
      have ei : f_25 (f_23 w1 3 (Int32.ofNat k)) * 11 + Int32.ofNat p = Int32.ofNat (11 * G[k].1 + p) := by rw [ef, f_25_pk hok, ix11c]
      have oi : gk_out (f_25 (f_23 w1 3 (Int32.ofNat k)) * 11 + Int32.ofNat p) 176 = false := by rw [ei]; exact o_ok (by omega) (by omega)
      have eg : (w_a w1 21).getD (f_25 (f_23 w1 3 (Int32.ofNat k)) * 11 + Int32.ofNat p).toNatClampNeg 0 = E1 G[k].1 p := by
        rw [ei, i_nat (by omega)]; exact h1 _ p h16 (by omega)
      have e75 := E75 (d := d) s1 W1 h1 hok (bp p)
      have hrow : ∀ c, bt (row wd E1 G[k].2 (bp p)) c = true → p ≤ c ∧ c ≤ wd.length := row_bnd b1 hL _ (bp_bnd hL hp)
      generalize hx : E1 G[k].1 p ||| row wd E1 G[k].2 (bp p) = x
      have s2 := sh_as s1 ly_21 (11 * G[k].1 + p) x
      have T2 := TE_set s1 ly_21 h1 h16 (show p < 11 by omega) x
      have xb : ∀ c, bt x c = true → p ≤ c ∧ c ≤ wd.length := fun c hc => by
        rw [← hx, bt_or, Bool.or_eq_true] at hc
        rcases hc with hc | hc
        · have := b1 _ _ _ hc; omega
        · exact hrow c hc
      have B2 := upE_bnd b1 h16 hp xb
      have L2 : tle E1 (upE E1 G[k].1 p x) := upE_tle (by rw [← hx]; exact ble_or _ _)
      have ew : w_sa w1 21 ((w_a w1 21).set (f_25 (f_23 w1 3 (Int32.ofNat k)) * 11 + Int32.ofNat p).toNatClampNeg (E1 G[k].1 p ||| row wd E1 G[k].2 (bp p))) = w_sa w1 21 ((w_a w1 21).set (11 * G[k].1 + p) x) := by
        rw [ei, i_nat (by omega), hx]
      have O2 : ∀ v q, q ≠ p → upE E1 G[k].1 p x v q = E v q := fun v q hq => by
        unfold upE
        rw [if_neg (fun h => hq h.2)]; exact o1 v q hq
      have M2 : ∀ T, clE wd G T → tle E T → tle (upE E1 G[k].1 p x) T := fun T hT h => by
        have h2 := t1 T hT h
        refine upE_le h2 ?_
        rw [← hx]
        exact ble_or2 (h2 _ _) (ble_trans _ _ _ (row_mono h2 _ (ble_refl _)) (hT _ (List.getElem_mem hk) p hp))
      by_cases hc : E1 G[k].1 p ||| row wd E1 G[k].2 (bp p) = E1 G[k].1 p
      · have eid : upE E1 G[k].1 p x = E1 := upE_id (by rw [← hx, hc])
        refine ⟨(g, E1), _, ⟨s2, Fr_trans f1 (Fr_sa (by simp) _), by rw [eid] at T2; exact T2, b1, l1, o1, t1, fun q => ?_, y1⟩, fun r w' h => sg_74_5 (d := d + 2) s1 rs_3 _ _ _ ⟨fun q => absurd q hle, fun _ => ⟨RS_out R1 hk, oi, RS_out R1 hk, _, by rw [ef]; exact e75, oi, fun _ => ⟨oi, ?_⟩, fun q => ?_⟩⟩⟩
        · obtain ⟨q1, q2⟩ := z1 q
          refine ⟨q1, fun j hj hjk => ?_⟩
          by_cases e : j = k
          · subst e
            have := ble_of_or hc
            rw [q1] at this; exact this
          · exact q2 j hj (by omega)
        · rw [eg, ew, bI_or0, i_s]; exact h
        · rw [eg] at q; exact absurd hc q
      · refine ⟨(true, upE E1 G[k].1 p x), _, ⟨s2, Fr_trans f1 (Fr_sa (by simp) _), T2, B2, tle_trans l1 L2, O2, M2, fun q => (by cases q), fun _ => ?_⟩, fun r w' h => sg_74_5 (d := d + 2) s1 rs_3 _ _ _ ⟨fun q => absurd q hle, fun _ => ⟨RS_out R1 hk, oi, RS_out R1 hk, _, by rw [ef]; exact e75, oi, fun q => ?_, fun _ => ⟨oi, ?_⟩⟩⟩⟩
        · obtain ⟨c, c1, c2⟩ := bne_bit hc
          refine ⟨G[k].1, c, ?_, ?_⟩
          · rcases hb : bt (E G[k].1 p) c with _ | _
            · rfl
            · rw [l1 _ _ c hb] at c1; cases c1
          · show bt (if G[k].1 = G[k].1 ∧ p = p then x else E1 G[k].1 p) c = true
            rw [if_pos ⟨rfl, rfl⟩, ← hx]; exact c2
        · rw [eg] at q; exact absurd q hc
        · rw [eg, ew, bI_or1, i_s]; exact h) G.length 0 (false, E) w (by omega) ⟨hS, Fr_refl, hE, hb, tle_refl _, fun _ _ _ => rfl, fun _ _ h => h, fun _ => ⟨rfl, fun j hj h => by omega⟩, fun q => by cases q⟩
  have R1 : RS w1 3 G := RS_Fr hR f1 (by decide) (by simp)
  refine ⟨g, E1, w1, gk_E_i rfl rfl (sg_74_0 (d := d + 2) hS rs_3 _ (g1 _ _ (sg_74_5 (d := d + 2) s1 rs_3 _ _ _ ⟨fun _ => ⟨bI_b _, rfl, rfl⟩, fun q => absurd ((RS_le R1 (by omega)).mpr (Nat.le_refl _)) q⟩))), s1, f1, h1, b1, l1, o1, t1, fun q => ⟨(z1 q).1, fun r hr => ?_⟩, y1⟩
  obtain ⟨j, hj, rfl⟩ := List.mem_iff_getElem.mp hr
  exact (z1 q).2 j hj hj
def cn (E : Nat → Nat → Int32) (p : Nat) : Nat := cnt 176 fun i => bt (E (i / 11) p) (i % 11)
theorem cn_lt {E E' : Nat → Nat → Int32} {p : Nat} (hl : tle E E') (hb : bnd wd E') (hL : wd.length ≤ 10) (h : ∃ v c, bt (E v p) c = false ∧ bt (E' v p) c = true) : cn E p < cn E' p := by
  obtain ⟨v, c, h1, h2⟩ := h
  have := hb v p c h2
  refine cnt_lt 176 (fun i _ q => hl _ _ _ q) ⟨11 * v + c, by omega, ?_, ?_⟩
  · rw [show (11 * v + c) / 11 = v by omega, show (11 * v + c) % 11 = c by omega]; exact h1
  · rw [show (11 * v + c) / 11 = v by omega, show (11 * v + c) % 11 = c by omega]; exact h2
/-- the rounds for one place -/
theorem E73_i {p : Nat} (hp : p ≤ wd.length) : ∀ (m k : Nat) (g : Bool) (w : gk_Wd) (E : Nat → Nat → Int32), k + m = 177 → gk_Sh rr w → RS w 3 G → WC w wd → TE w 21 E → bnd wd E → k ≤ cn E p → (g = false → ∀ r ∈ G, ble (row wd E r.2 (bp p)) (E r.1 p)) →
    ∃ (E' : Nat → Nat → Int32) (w' : gk_Wd), gk_Sh rr w' ∧ Fr [21] [] w w' ∧ TE w' 21 E' ∧ bnd wd E' ∧ tle E E' ∧ (∀ v q, q ≠ p → E' v q = E v q) ∧ (∀ T, clE wd G T → tle E T → tle E' T) ∧ (∀ r ∈ G, ble (row wd E' r.2 (bp p)) (E' r.1 p)) ∧ Go (d + 4) 73 38 [some (.ref 20), some (.ref 4), some (.int (Int32.ofNat p)), some (.int (bI g)), some (.int (Int32.ofNat k))] w 29 [some (.ref 20), some (.ref 4), some (.int (Int32.ofNat p - 1)), none, none] w'
  | 0, k, g, w, E, hk, hS, hR, hW, hE, hb, hc, hg => by
    have := cnt_le 176 (fun i => bt (E (i / 11) p) (i % 11))
    unfold cn at hc
    omega
  | m + 1, k, false, w, E, hk, hS, hR, hW, hE, hb, hc, hg => ⟨E, w, hS, Fr_refl, hE, hb, tle_refl _, fun _ _ _ => rfl, fun _ _ h => h, hg rfl, fun r w' h => sg_73_38 (d := d + 3) hS rs_3 _ _ _ ⟨fun _ => by rw [i_m1]; exact h, fun q => absurd rfl q⟩⟩
  | m + 1, k, true, w, E, hk, hS, hR, hW, hE, hb, hc, hg => by
    have n177 : ¬ (177 : Int32) ≤ Int32.ofNat k := fun q => absurd ((i_le (a := 177) (by omega) (by omega)).mp q) (by omega)
    obtain ⟨g1, E1, w1, e1, s1, f1, h1, b1, l1, o1, t1, z1, y1⟩ := E74 (d := d) hS hR hW hE hb hp
    have R1 : RS w1 3 G := RS_Fr hR f1 (by decide) (by simp)
    have W1 := WC_Fr hW f1 (by decide) (by simp)
    cases g1 with
    | false =>
      obtain ⟨q1, q2⟩ := z1 rfl
      refine ⟨E1, w1, s1, f1, h1, b1, l1, o1, t1, fun r hr => by rw [q1]; exact q2 r hr, fun r w' h => sg_73_38 (d := d + 3) hS rs_3 _ _ _ ⟨fun q => absurd q (by decide), fun _ => ⟨fun q => absurd q n177, fun _ => ⟨_, w1, e1, s1, sg_73_38 (d := d + 3) s1 rs_3 _ _ _ ⟨fun _ => by rw [i_m1]; exact h, fun q => absurd rfl q⟩⟩⟩⟩⟩
    | true =>
      have hlt := cn_lt l1 b1 hW.2.1 (y1 rfl)
      obtain ⟨E2, w2, s2, f2, h2, b2, l2, o2, t2, c2, g2⟩ := E73_i hp m (k + 1) true w1 E1 (by omega) s1 R1 W1 h1 b1 (by omega) (fun q => by cases q)
      refine ⟨E2, w2, s2, Fr_trans f1 f2, h2, b2, tle_trans l1 l2, fun v q hq => by rw [o2 v q hq, o1 v q hq], fun T hT h => t2 T hT (t1 T hT h), c2, fun r w' h => sg_73_38 (d := d + 3) hS rs_3 _ _ _ ⟨fun q => absurd q (by decide), fun _ => ⟨fun q => absurd q n177, fun _ => ⟨_, w1, e1, s1, ?_⟩⟩⟩⟩
      rw [i_s]; exact g2 r w' h
theorem f_79_W (hW : WC w wd) (x : Int32) : f_79 w x = bI (bt x wd.length) := by
  have hL := hW.2.1
  unfold f_79
  rw [hW.1]
  have := bt_is0 x (v := wd.length) (by omega)
  rcases hb : bt x wd.length with _ | _
  · rw [if_pos (this.mpr hb)]; rfl
  · rw [if_neg (by rw [this, hb]; decide)]; rfl
/-- isProduced -/
theorem E73 (hS : gk_Sh rr w) (hR : RS w 3 G) (hW : WC w wd) : ∃ (E : Nat → Nat → Int32) (w' : gk_Wd), isE wd G E ∧ bnd wd E ∧ gk_E (d + 4) 73 [.ref 20, .ref 4] w (.inl (some (.int (bI (bt (E 0 0) wd.length))))) w' ∧ gk_Sh rr w' ∧ Fr [21] [] w w' ∧ TE w' 21 E := by
  have hL := hW.2.1
  obtain ⟨-, w1, ⟨s1, f1, h1⟩, g1⟩ := up_loop (α := Unit) (d := d + 4) (mi := 73) (pc := 2) 176 (fun k _ => [some (.ref 20), some (.ref (3 + 1)), some (.int (Int32.ofNat k)), none, none])
    (fun k _ w1 => gk_Sh rr w1 ∧ Fr [21] [] w w1 ∧ ∀ i, i < k → (w_a w1 21).getD i 0 = 0)
    (fun k _ w1 hk hI => by
      obtain ⟨s1, f1, h1⟩ := hI
      have hl := (w_int s1 ly_21).2
      refine ⟨(), _, ⟨sh_as s1 ly_21 k 0, Fr_trans f1 (Fr_sa (by simp) _), fun i hi => ?_⟩, fun r w' h => sg_73_2 (d := d + 3) s1 rs_3 _ ⟨fun q => absurd ((i_le (a := 176) (by omega) (by omega)).mp q) (by omega), fun _ => ⟨o_ok (by omega) (by omega), by rw [i_nat (by omega), i_s]; exact h⟩⟩⟩
      rw [w_a_same s1 ly_21, getD_set32 _ (by omega)]
      by_cases e : i = k
      · rw [if_pos e]
      · rw [if_neg e]; exact h1 i (by omega)) 176 0 () w (by omega) ⟨hS, Fr_refl, fun i hi => by omega⟩
  have R1 : RS w1 3 G := RS_Fr hR f1 (by decide) (by simp)
  have W1 := WC_Fr hW f1 (by decide) (by simp)
  obtain ⟨E, w2, ⟨hk2, s2, f2, h2, b2, t2, c2⟩, g2⟩ := dn_loop (α := Nat → Nat → Int32) (d := d + 4) (mi := 73) (pc := 29) (fun k _ => [some (.ref 20), some (.ref (3 + 1)), some (.int (Int32.ofNat k - 1)), none, none])
    (fun k E w2 => k ≤ wd.length + 1 ∧ gk_Sh rr w2 ∧ Fr [21] [] w1 w2 ∧ TE w2 21 E ∧ bnd wd E ∧ (∀ T, clE wd G T → tle E T) ∧ ∀ q, k ≤ q → q ≤ wd.length → ∀ r ∈ G, ble (row wd E r.2 (bp q)) (E r.1 q))
    (fun k E w2 hI => by
      obtain ⟨hk, s2, f2, h2, b2, t2, c2⟩ := hI
      have hkl : k ≤ wd.length := by omega
      obtain ⟨E3, w3, s3, f3, h3, b3, l3, o3, t3, c3, g3⟩ := E73_i (d := d) (G := G) hkl 177 0 true w2 E (by omega) s2 (RS_Fr R1 f2 (by decide) (by simp)) (WC_Fr W1 f2 (by decide) (by simp)) h2 b2 (Nat.zero_le _) (fun q => by cases q)
      refine ⟨E3, w3, ⟨by omega, s3, Fr_trans f2 f3, h3, b3, fun T hT => t3 T hT (t2 T hT), fun q hq hql r hr => ?_⟩, fun r w' h => ?_⟩
      · by_cases e : q = k
        · subst e; exact c3 r hr
        · have e1 : row wd E3 r.2 (bp q) = row wd E r.2 (bp q) := row_congr (q := q) (fun v p hp => o3 v p (by omega)) b3 hL r.2 (bp_bnd hL hql)
          rw [e1, o3 r.1 q e]
          exact c2 q (by omega) hql r hr
      · rw [i_down]
        exact sg_73_29 (d := d + 3) s2 rs_3 _ ⟨fun q => absurd q (i_neg (by omega)), fun _ => g3 r w' h⟩) (wd.length + 1) (fun _ _ => 0) w1 ⟨Nat.le_refl _, s1, Fr_refl, fun v p hv hp => h1 _ (by omega), fun v p c hc => (by rw [bt_zero] at hc; cases hc), fun T _ v p c hc => (by rw [bt_zero] at hc; cases hc), fun q hq hql => by omega⟩
  have W2 := WC_Fr W1 f2 (by decide) (by simp)
  have e00 : (w_a w2 21).getD 0 0 = E 0 0 := h2 0 0 (by omega) (by omega)
  have hE : isE wd G E := ⟨fun r hr p hp => c2 p (Nat.zero_le _) hp r hr, t2⟩
  refine ⟨E, w2, hE, b2, gk_E_i rfl rfl (sg_73_0 (d := d + 3) hS rs_3 (g1 _ _ (sg_73_2 (d := d + 3) s1 rs_3 _ ⟨fun _ => ?_, fun q => absurd (by decide) q⟩))), s2, Fr_trans f1 f2, h2⟩
  rw [W1.1]
  rw [i_down] at g2
  refine g2 _ _ (sg_73_29 (d := d + 3) s2 rs_3 _ ⟨fun _ => ?_, fun q => absurd i_z1 q⟩)
  rw [e00, f_79_W W2]
  exact ⟨bI_b _, rfl, rfl⟩
end PE
