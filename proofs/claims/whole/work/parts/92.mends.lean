/-! part 66: findEnds of the reference -/
section FE
variable {d : Nat} {rr : List gk_S} {wd : List Nat} {G : List Rl}
/-- one rule at one place -/
theorem E206_s {w : gk_Wd} {E : Nat → Nat → Int32} (hS : gk_Sh rr w) (hR : RM w 4 28 G) (hW : WM w wd) (hE : TE w 44 E) {i : Nat} (hi : i < G.length) {p : Nat} {x1 : Int32} : Go (d + 2) 206 58 [some (.ref 27), some (.int x1), some (.int (Int32.ofNat i)), some (.int (Int32.ofNat p)), some (.int (bp p)), some (.int (Int32.ofNat 0))] w 58 [some (.ref 27), some (.int x1), some (.int (Int32.ofNat i)), some (.int (Int32.ofNat p)), some (.int (row wd E G[i].2 (bp p))), some (.int (Int32.ofNat G[i].2.length))] w := by
  have hok := RM_ok hR hi
  have h10 := hok.2.1
  obtain ⟨X, w1, ⟨rfl, hX⟩, g1⟩ := up_loop (α := Int32) (d := d + 2) (mi := 206) (pc := 58) G[i].2.length (fun k X => [some (.ref 27), some (.int x1), some (.int (Int32.ofNat i)), some (.int (Int32.ofNat p)), some (.int X), some (.int (Int32.ofNat k))])
    (fun k X w1 => w1 = w ∧ row wd E (G[i].2.drop k) X = row wd E G[i].2 (bp p))
    (fun k X w1 hk hI => by
      obtain ⟨rfl, hX⟩ := hI
      have hs := hok.2.2 _ (List.getElem_mem hk)
      rw [List.drop_eq_getElem_cons hk] at hX
      have hsz : ¬ (w_a w1 29).getD (Int32.ofNat i).toNatClampNeg 0 ≤ Int32.ofNat k := fun q => absurd ((RM_sz hR hi (by omega)).mp q) (by omega)
      exact ⟨rc wd E G[i].2[k] X, w1, ⟨rfl, hX⟩, fun r w' h => sg_206_58 (d := d + 1) hS _ _ _ _ _ ⟨RM_out hR hi, fun q => absurd q hsz, fun _ => ⟨RM_io hR hi (by omega), _, by rw [RM_at hR hi hk]; exact E207 hS hW hE hs X, by rw [i_s]; exact h⟩⟩⟩) G[i].2.length 0 (bp p) w (by omega) ⟨rfl, rfl⟩
  rw [List.drop_eq_nil_of_le (Nat.le_refl _)] at hX
  have hX2 : X = row wd E G[i].2 (bp p) := hX
  rw [← hX2]; exact g1
/-- what a pass has done so far -/
def PA (wd : List Nat) (G : List Rl) (E : Nat → Nat → Int32) (D : Nat → Nat → Prop) (a : Bool × (Nat → Nat → Int32)) : Prop := bnd wd a.2 ∧ tle E a.2 ∧ (∀ T, clE wd G T → tle E T → tle a.2 T) ∧ (a.1 = false → a.2 = E ∧ ∀ (j : Nat) (hj : j < G.length) (q : Nat), q ≤ wd.length → D j q → ble (row wd E G[j].2 (bp q)) (E G[j].1 q)) ∧ (a.1 = true → ∃ v p c, bt (E v p) c = false ∧ bt (a.2 v p) c = true)
theorem PA_mono {wd : List Nat} {G : List Rl} {E : Nat → Nat → Int32} {D D' : Nat → Nat → Prop} {a : Bool × (Nat → Nat → Int32)} (h : PA wd G E D a) (hd : ∀ (j : Nat) (_ : j < G.length) (q : Nat), q ≤ wd.length → D' j q → D j q) : PA wd G E D' a := ⟨h.1, h.2.1, h.2.2.1, fun q => ⟨(h.2.2.2.1 q).1, fun j hj p hp hD => (h.2.2.2.1 q).2 j hj p hp (hd j hj p hp hD)⟩, h.2.2.2.2⟩
theorem E206_p {w : gk_Wd} {E : Nat → Nat → Int32} (hS : gk_Sh rr w) (hR : RM w 4 28 G) (hW : WM w wd) {i : Nat} (hi : i < G.length) {D : Nat → Nat → Prop} {a : Bool × (Nat → Nat → Int32)} (hE : TE w 44 a.2) (hA : PA wd G E D a) : ∃ (a1 : Bool × (Nat → Nat → Int32)) (w1 : gk_Wd), gk_Sh rr w1 ∧ Fr [44] [] w w1 ∧ TE w1 44 a1.2 ∧ PA wd G E (fun j q => D j q ∨ j = i) a1 ∧ Go (d + 2) 206 42 [some (.ref 27), some (.int (bI a.1)), some (.int (Int32.ofNat i)), some (.int (Int32.ofNat 0)), none, none] w 32 [some (.ref 27), some (.int (bI a1.1)), some (.int (Int32.ofNat (i + 1))), none, none, none] w1 := by
  have hL := hW.2.1
  have hok := RM_ok hR hi
  have h16 := hok.1
  have h10 := hok.2.1
  obtain ⟨a1, w1, ⟨s1, f1, h1, A1⟩, g1⟩ := up_loop (α := Bool × (Nat → Nat → Int32)) (d := d + 2) (mi := 206) (pc := 42) (wd.length + 1) (fun p a => [some (.ref 27), some (.int (bI a.1)), some (.int (Int32.ofNat i)), some (.int (Int32.ofNat p)), none, none])
    (fun p a1 w1 => gk_Sh rr w1 ∧ Fr [44] [] w w1 ∧ TE w1 44 a1.2 ∧ PA wd G E (fun j q => D j q ∨ (j = i ∧ q < p)) a1)
    (fun p a1 w1 hp hI => by
      obtain ⟨g, E1⟩ := a1
      obtain ⟨s1, f1, h1, A1⟩ := hI
      simp only at h1
      have R1 : RM w1 4 28 G := RM_Fr hR f1 (by decide) (by simp)
      have W1 := WM_Fr hW f1 (by decide) (by simp)
      have hle : ¬ w_i w1 26 24 < Int32.ofNat p := by
        rw [W1.1]; intro q
        exact absurd ((i_lt (by omega) (by omega)).mp q) (by omega)
      have hpl : p ≤ wd.length := by omega
      have gs := E206_s (d := d) s1 R1 W1 h1 hi (p := p) (x1 := bI g)
      have el := RM_left R1 hi
      have ei : 11 * (w_a w1 28).getD (Int32.ofNat i).toNatClampNeg 0 + Int32.ofNat p = Int32.ofNat (11 * G[i].1 + p) := by rw [el, ix11]
      have oi : gk_out (11 * (w_a w1 28).getD (Int32.ofNat i).toNatClampNeg 0 + Int32.ofNat p) 176 = false := by rw [ei]; exact o_ok (by omega) (by omega)
      have eg : (w_a w1 44).getD (11 * (w_a w1 28).getD (Int32.ofNat i).toNatClampNeg 0 + Int32.ofNat p).toNatClampNeg 0 = E1 G[i].1 p := by
        rw [ei, i_nat (by omega)]; exact h1 _ p h16 (by omega)
      have hsz : (w_a w1 29).getD (Int32.ofNat i).toNatClampNeg 0 ≤ Int32.ofNat G[i].2.length := (RM_sz R1 hi (by omega)).mpr (Nat.le_refl _)
      obtain ⟨b1, l1, t1, z1, y1⟩ := A1
      simp only at b1 l1 t1 z1 y1
      have hrow : ∀ c, bt (row wd E1 G[i].2 (bp p)) c = true → p ≤ c ∧ c ≤ wd.length := row_bnd b1 hL _ (bp_bnd hL hpl)
      by_cases hc : E1 G[i].1 p ||| row wd E1 G[i].2 (bp p) = E1 G[i].1 p
      · refine ⟨(g, E1), w1, ⟨s1, f1, h1, b1, l1, t1, fun q => ⟨(z1 q).1, fun j hj q' hq' hD => ?_⟩, y1⟩, fun r w' h => sg_206_42 (d := d + 1) s1 _ _ _ ⟨fun q => absurd q hle, fun _ => gs r w' (sg_206_58 (d := d + 1) s1 _ _ _ _ _ ⟨RM_out R1 hi, fun _ => ⟨RM_out R1 hi, oi, oi, fun q => ?_, fun _ => by rw [i_s]; exact h⟩, fun q => absurd hsz q⟩)⟩⟩
        · obtain ⟨q1, q2⟩ := z1 q
          rcases hD with hD | ⟨rfl, hD⟩
          · exact q2 j hj q' hq' (Or.inl hD)
          · by_cases e : q' = p
            · subst e
              have := ble_of_or hc
              rw [q1] at this; exact this
            · exact q2 j hj q' hq' (Or.inr ⟨rfl, by omega⟩)
        · rw [eg] at q; exact absurd hc q
      · generalize hx : E1 G[i].1 p ||| row wd E1 G[i].2 (bp p) = x
        have xb : ∀ c, bt x c = true → p ≤ c ∧ c ≤ wd.length := fun c hc => by
          rw [← hx, bt_or, Bool.or_eq_true] at hc
          rcases hc with hc | hc
          · have := b1 _ _ _ hc; omega
          · exact hrow c hc
        refine ⟨(true, upE E1 G[i].1 p x), _, ⟨sh_as s1 ly_44 (11 * G[i].1 + p) x, Fr_trans f1 (Fr_sa (by simp) _), TE_set s1 ly_44 h1 h16 (show p < 11 by omega) x, upE_bnd b1 h16 hpl xb, tle_trans l1 (upE_tle (by rw [← hx]; exact ble_or _ _)), fun T hT h => ?_, fun q => (by cases q), fun _ => ?_⟩, fun r w' h => sg_206_42 (d := d + 1) s1 _ _ _ ⟨fun q => absurd q hle, fun _ => gs r w' (sg_206_58 (d := d + 1) s1 _ _ _ _ _ ⟨RM_out R1 hi, fun _ => ⟨RM_out R1 hi, oi, oi, fun _ => ⟨oi, oi, ?_⟩, fun q => ?_⟩, fun q => absurd hsz q⟩)⟩⟩
        · have h2 := t1 T hT h
          refine upE_le h2 ?_
          rw [← hx]
          exact ble_or2 (h2 _ _) (ble_trans _ _ _ (row_mono h2 _ (ble_refl _)) (hT _ (List.getElem_mem hi) p hpl))
        · obtain ⟨c, c1, c2⟩ := bne_bit hc
          refine ⟨G[i].1, p, c, ?_, ?_⟩
          · rcases hb : bt (E G[i].1 p) c with _ | _
            · rfl
            · rw [l1 _ _ c hb] at c1; cases c1
          · show bt (if G[i].1 = G[i].1 ∧ p = p then x else E1 G[i].1 p) c = true
            rw [if_pos ⟨rfl, rfl⟩, ← hx]; exact c2
        · rw [eg, hx, ei, i_nat (by omega), i_s]; exact h
        · rw [eg] at q; exact absurd q hc) (wd.length + 1) 0 a w (by omega) ⟨hS, Fr_refl, hE, PA_mono hA fun j _ q _ hD => by
      rcases hD with hD | ⟨_, h0⟩
      · exact hD
      · omega⟩
  have W1 := WM_Fr hW f1 (by decide) (by simp)
  refine ⟨a1, w1, s1, f1, h1, PA_mono A1 fun j _ q hq hD => ?_, Go_trans g1 fun r w' h => sg_206_42 (d := d + 1) s1 _ _ _ ⟨fun _ => by rw [i_s]; exact h, fun q => absurd ?_ q⟩⟩
  · rcases hD with hD | rfl
    · exact Or.inl hD
    · exact Or.inr ⟨rfl, by omega⟩
  · rw [W1.1]; exact (i_lt (by omega) (by omega)).mpr (by omega)
def cnA (E : Nat → Nat → Int32) : Nat := cnt 1936 fun i => bt (E (i / 121) (i / 11 % 11)) (i % 11)
theorem cnA_lt {E E' : Nat → Nat → Int32} (hl : tle E E') (hb : bnd wd E') (hL : wd.length ≤ 10) (h : ∃ v p c, bt (E v p) c = false ∧ bt (E' v p) c = true) : cnA E < cnA E' := by
  obtain ⟨v, p, c, h1, h2⟩ := h
  have := hb v p c h2
  refine cnt_lt 1936 (fun i _ q => hl _ _ _ q) ⟨121 * v + 11 * p + c, by omega, ?_, ?_⟩
  · rw [show (121 * v + 11 * p + c) / 121 = v by omega, show (121 * v + 11 * p + c) / 11 % 11 = p by omega, show (121 * v + 11 * p + c) % 11 = c by omega]; exact h1
  · rw [show (121 * v + 11 * p + c) / 121 = v by omega, show (121 * v + 11 * p + c) / 11 % 11 = p by omega, show (121 * v + 11 * p + c) % 11 = c by omega]; exact h2
theorem E206_w : ∀ (n : Nat) (w : gk_Wd) (E : Nat → Nat → Int32), gk_Sh rr w → RM w 4 28 G → WM w wd → TE w 44 E → bnd wd E → (∀ T, clE wd G T → tle E T) → 1936 ≤ n + cnA E → ∃ (E' : Nat → Nat → Int32) (w' : gk_Wd), isE wd G E' ∧ bnd wd E' ∧ gk_Sh rr w' ∧ Fr [44] [] w w' ∧ TE w' 44 E' ∧ gk_W none (d + 2) 206 24 [some (.ref 27), some (.int 1), none, none, none, none] [] w (.inl none) w' := by
  intro n w E hS hR hW hE hb ht hn
  have h60 := RM_60 hR
  obtain ⟨a1, w1, ⟨s1, f1, h1, A1⟩, g1⟩ := up_loop (α := Bool × (Nat → Nat → Int32)) (d := d + 2) (mi := 206) (pc := 32) G.length (fun i a => [some (.ref 27), some (.int (bI a.1)), some (.int (Int32.ofNat i)), none, none, none])
    (fun i a1 w1 => gk_Sh rr w1 ∧ Fr [44] [] w w1 ∧ TE w1 44 a1.2 ∧ PA wd G E (fun j _ => j < i) a1)
    (fun i a1 w1 hi hI => by
      obtain ⟨s1, f1, h1, A1⟩ := hI
      have R1 : RM w1 4 28 G := RM_Fr hR f1 (by decide) (by simp)
      have W1 := WM_Fr hW f1 (by decide) (by simp)
      have hle : ¬ w_i w1 26 4 ≤ Int32.ofNat i := fun q => absurd ((RM_le R1 (by omega)).mp q) (by omega)
      obtain ⟨a2, w2, s2, f2, h2, A2, g2⟩ := E206_p (d := d) s1 R1 W1 hi h1 A1
      refine ⟨a2, w2, ⟨s2, Fr_trans f1 f2, h2, PA_mono A2 fun j _ q _ hD => ?_⟩, fun r w' h => sg_206_32 (d := d + 1) s1 _ _ ⟨fun q => absurd q hle, fun _ => g2 r w' h⟩⟩
      by_cases e : j = i
      · exact Or.inr e
      · exact Or.inl (by omega)) G.length 0 (false, E) w (by omega) ⟨hS, Fr_refl, hE, hb, tle_refl _, fun _ _ h => h, fun _ => ⟨rfl, fun j hj q hq h0 => by omega⟩, fun q => by cases q⟩
  have R1 : RM w1 4 28 G := RM_Fr hR f1 (by decide) (by simp)
  have hle : w_i w1 26 4 ≤ Int32.ofNat G.length := (RM_le R1 (by omega)).mpr (Nat.le_refl _)
  obtain ⟨g, E1⟩ := a1
  obtain ⟨b1, l1, t1, z1, y1⟩ := A1
  simp only at h1 b1 l1 t1 z1 y1
  cases g with
  | false =>
    obtain ⟨q1, q2⟩ := z1 rfl
    subst q1
    refine ⟨E1, w1, ⟨fun r hr p hp => ?_, ht⟩, b1, s1, f1, h1, sg_206_24 (d := d + 1) hS _ ⟨fun q => absurd q (by decide), fun _ => g1 _ _ (sg_206_32 (d := d + 1) s1 _ _ ⟨fun _ => sg_206_24 (d := d + 1) s1 _ ⟨fun _ => ⟨rfl, rfl⟩, fun q => absurd rfl q⟩, fun q => absurd hle q⟩)⟩⟩
    obtain ⟨j, hj, rfl⟩ := List.mem_iff_getElem.mp hr
    exact q2 j hj p hp hj
  | true =>
    have hlt := cnA_lt l1 b1 hW.2.1 (y1 rfl)
    have := cnt_le 1936 (fun i => bt (E1 (i / 121) (i / 11 % 11)) (i % 11))
    have hle2 : cnA E1 ≤ 1936 := this
    cases n with
    | zero => omega
    | succ n =>
      obtain ⟨E2, w2, i2, b2, s2, f2, h2, g2⟩ := E206_w n w1 E1 s1 R1 (WM_Fr hW f1 (by decide) (by simp)) h1 b1 (fun T hT => t1 T hT (ht T hT)) (by omega)
      exact ⟨E2, w2, i2, b2, s2, Fr_trans f1 f2, h2, sg_206_24 (d := d + 1) hS _ ⟨fun q => absurd q (by decide), fun _ => g1 _ _ (sg_206_32 (d := d + 1) s1 _ _ ⟨fun _ => g2, fun q => absurd hle q⟩)⟩⟩
/-- findEnds -/
theorem E206 {w : gk_Wd} (hS : gk_Sh rr w) (hR : RM w 4 28 G) (hW : WM w wd) : ∃ (E : Nat → Nat → Int32) (w' : gk_Wd), isE wd G E ∧ bnd wd E ∧ gk_E (d + 2) 206 [.ref 27] w (.inl none) w' ∧ gk_Sh rr w' ∧ Fr [44] [] w w' ∧ TE w' 44 E := by
  obtain ⟨-, w1, ⟨s1, f1, h1⟩, g1⟩ := up_loop (α := Unit) (d := d + 2) (mi := 206) (pc := 2) 176 (fun k _ => [some (.ref 27), some (.int (Int32.ofNat k)), none, none, none, none])
    (fun k _ w1 => gk_Sh rr w1 ∧ Fr [44] [] w w1 ∧ ∀ i, i < k → (w_a w1 44).getD i 0 = 0)
    (fun k _ w1 hk hI => by
      obtain ⟨s1, f1, h1⟩ := hI
      have hl := (w_int s1 ly_44).2
      refine ⟨(), _, ⟨sh_as s1 ly_44 k 0, Fr_trans f1 (Fr_sa (by simp) _), fun i hi => ?_⟩, fun r w' h => sg_206_2 (d := d + 1) s1 _ ⟨fun q => absurd ((i_le (a := 176) (by omega) (by omega)).mp q) (by omega), fun _ => ⟨o_ok (by omega) (by omega), by rw [i_nat (by omega), i_s]; exact h⟩⟩⟩
      rw [w_a_same s1 ly_44, getD_set32 _ (by omega)]
      by_cases e : i = k
      · rw [if_pos e]
      · rw [if_neg e]; exact h1 i (by omega)) 176 0 () w (by omega) ⟨hS, Fr_refl, fun i hi => by omega⟩
  obtain ⟨E, w2, i2, b2, s2, f2, h2, g2⟩ := E206_w (d := d) (G := G) (wd := wd) 1936 w1 (fun _ _ => 0) s1 (RM_Fr hR f1 (by decide) (by simp)) (WM_Fr hW f1 (by decide) (by simp)) (fun v p hv hp => h1 _ (by omega)) (fun v p c hc => by rw [bt_zero] at hc; cases hc) (fun T _ v p c hc => by rw [bt_zero] at hc; cases hc) (by omega)
  exact ⟨E, w2, i2, b2, gk_E_i rfl rfl (sg_206_0 (d := d + 1) hS (g1 _ _ (sg_206_2 (d := d + 1) s1 _ ⟨fun _ => g2, fun q => absurd (by decide) q⟩))), s2, Fr_trans f1 f2, h2⟩
end FE
