/-! part 63: whether one letter ahead always chooses -/
def sgP (N : Nat → Bool) (F W : Nat → Int32) (G : List Rl) : Prop := ∀ (i j : Nat) (hi : i < G.length) (hj : j < G.length), i < j → G[i].1 = G[j].1 → (beh N F (W G[i].1) G[i].2 &&& beh N F (W G[j].1) G[j].2) = 0
def sglR (G : List Rl) (b : Bool) : Prop := ∃ (N : Nat → Bool) (W : Nat → Int32), isP false G N ∧ isFo N (Fst N G) G W ∧ (b = true ↔ sgP N (Fst N G) W G)
theorem sglR_uniq {G : List Rl} {b b' : Bool} (h : sglR G b) (h' : sglR G b') : b = b' := by
  obtain ⟨N, W, h1, h2, h3⟩ := h
  obtain ⟨N', W', h1', h2', h3'⟩ := h'
  obtain rfl := isP_uniq h1 h1'
  obtain rfl := isFo_uniq h2 h2'
  rw [Bool.eq_iff_iff, h3, h3']
section SG
variable {d : Nat} {rr : List gk_S} {w : gk_Wd} {G : List Rl} {N : Nat → Bool} {F W : Nat → Int32}
/-- chosenBy -/
theorem E65 (hS : gk_Sh rr w) (hN : NB w N) (hF : TB w 15 F) (hW : TB w 16 W) {r : Rl} (hr : okR r) : gk_E (d + 3) 65 [.ref 15, .long (pk r)] w (.inl (some (.int (beh N F (W r.1) r.2)))) w := by
  have e55 := E55 (d := d) hS hN hF hr
  have o0 : ∀ x : Int32, x ||| 0 = x := fun x => by
    refine bt_ext fun c _ => ?_
    rw [bt_or, bt_zero, Bool.or_false]
  have hsub : (vs r.2 0 &&& (w_i w 14 2 ^^^ (-1))) = 0 ↔ ∀ v ∈ r.2, v < 16 → N v = true := by
    rw [sub_bits]
    refine forall_congr' fun v => forall_congr' fun _ => forall_congr' fun h => ?_
    rw [hN v h]
  have hl : nlA N r.2 = true ↔ (∀ v ∈ r.2, v < 16) ∧ ∀ v ∈ r.2, v < 16 → N v = true := by
    unfold nlA
    rw [List.all_eq_true]
    simp only [Bool.and_eq_true, decide_eq_true_eq]
    exact ⟨fun h => ⟨fun v hv => (h v hv).1, fun v hv _ => (h v hv).2⟩, fun h v hv => ⟨h.1 v hv, h.2 v hv (h.1 v hv)⟩⟩
  have hb : ∀ b : Bool, nlA N r.2 = b → (b = false → nlA N r.2 = false) := fun b h q => by rw [h, q]
  refine gk_E_i rfl rfl (sg_65_0 (d := d + 2) hS _ ⟨_, E34 hS hr, fun q => ⟨_, e55, ?_, rfl⟩, fun q => ⟨_, E33 hS hr, fun q2 => ⟨_, e55, ?_, rfl⟩, fun q2 => ⟨_, e55, by rw [f_25_pk hr]; exact o16 hr.1, ?_, rfl⟩⟩⟩)
  · have : nlA N r.2 = false := by
      rcases hx : nlA N r.2 with _ | _
      · rfl
      · exact absurd (hl_0.mpr (hl.mp hx).1) q
    rw [beh_n this, o0]
  · have : nlA N r.2 = false := by
      rcases hx : nlA N r.2 with _ | _
      · rfl
      · exact absurd (hsub.mpr (hl.mp hx).2) q2
    rw [beh_n this, o0]
  · have : nlA N r.2 = true := hl.mpr ⟨hl_0.mp q, hsub.mp q2⟩
    rw [beh_t this, TB_at hW (f_25_pk hr) hr.1]
/-- choosesAlways -/
theorem E64 (hS : gk_Sh rr w) (hR : RS w 3 G) (hN : NB w N) (hF : TB w 15 F) (hW : TB w 16 W) : ∃ b : Bool, (b = true ↔ sgP N F W G) ∧ gk_E (d + 4) 64 [.ref 15, .ref 4] w (.inl (some (.int (bI b)))) w := by
  have h60 := RS_60 hR
  obtain ⟨v, w2, ⟨rfl, b, hb, rfl⟩, g2⟩ := up_exit (α := Unit) (d := d + 4) (mi := 64) (pc := 2) G.length (fun k _ => [some (.ref 15), some (.ref (3 + 1)), some (.int (Int32.ofNat k)), none])
    (fun k _ w2 => w2 = w ∧ ∀ (i j : Nat) (hi : i < G.length) (hj : j < G.length), i < k → i < j → G[i].1 = G[j].1 → (beh N F (W G[i].1) G[i].2 &&& beh N F (W G[j].1) G[j].2) = 0)
    (fun v w' => w' = w ∧ ∃ b : Bool, (b = true ↔ sgP N F W G) ∧ v = .inl (some (.int (bI b))))
    (fun k _ w2 hk hI => by
      obtain ⟨rfl, hn⟩ := hI
      have hle : ¬ f_13 w2 3 ≤ Int32.ofNat k := fun q => absurd ((RS_le hR (by omega)).mp q) (by omega)
      have efk := RS_f23 hR hk
      have hokk := RS_ok hR hk
      have hin : ∀ (m j : Nat), j + m = G.length → k < j → (∀ (j' : Nat) (hj : j' < G.length), k < j' → j' < j → G[k].1 = G[j'].1 → (beh N F (W G[k].1) G[k].2 &&& beh N F (W G[j'].1) G[j'].2) = 0) → ((∀ (j' : Nat) (hj : j' < G.length), k < j' → G[k].1 = G[j'].1 → (beh N F (W G[k].1) G[k].2 &&& beh N F (W G[j'].1) G[j'].2) = 0) ∧ Go (d + 4) 64 14 [some (.ref 15), some (.ref (3 + 1)), some (.int (Int32.ofNat k)), some (.int (Int32.ofNat j))] w2 2 [some (.ref 15), some (.ref (3 + 1)), some (.int (Int32.ofNat (k + 1))), none] w2) ∨ (¬ sgP N F W G ∧ gk_W none (d + 4) 64 14 [some (.ref 15), some (.ref (3 + 1)), some (.int (Int32.ofNat k)), some (.int (Int32.ofNat j))] [] w2 (.inl (some (.int 0))) w2) := by
        intro m
        induction m with
        | zero =>
          intro j hj hkj hall
          left
          refine ⟨fun j' hj' h1 => hall j' hj' h1 (by omega), fun r w' h => sg_64_14 (d := d + 3) hS rs_3 _ _ ⟨fun _ => by rw [i_s]; exact h, fun q => absurd ((RS_le hR (by omega)).mpr (by omega)) q⟩⟩
        | succ m ih =>
          intro j hj hkj hall
          have hjl : j < G.length := by omega
          have efj := RS_f23 hR hjl
          have hokj := RS_ok hR hjl
          have hlj : ¬ f_13 w2 3 ≤ Int32.ofNat j := fun q => absurd ((RS_le hR (by omega)).mp q) (by omega)
          have hkl := hokk.1
          have hjl16 := hokj.1
          have eq : f_25 (f_23 w2 3 (Int32.ofNat k)) = f_25 (f_23 w2 3 (Int32.ofNat j)) ↔ G[k].1 = G[j].1 := by
            rw [efk, efj, f_25_pk hokk, f_25_pk hokj]; exact i_eq (by omega) (by omega)
          have c1 := E65 (d := d) hS hN hF hW hokk
          have c2 := E65 (d := d) hS hN hF hW hokj
          by_cases hc : G[k].1 = G[j].1 ∧ ¬ (beh N F (W G[k].1) G[k].2 &&& beh N F (W G[j].1) G[j].2) = 0
          · right
            refine ⟨fun h => hc.2 (h k j hk hjl hkj hc.1), sg_64_14 (d := d + 3) hS rs_3 _ _ ⟨fun q => absurd q hlj, fun _ => ⟨RS_out hR hk, RS_out hR hjl, fun q => absurd (eq.mpr hc.1) q, fun _ => ⟨RS_out hR hk, _, by rw [efk]; exact c1, RS_out hR hjl, _, by rw [efj]; exact c2, fun q => absurd q hc.2, fun _ => ⟨rfl, rfl⟩⟩⟩⟩⟩
          · have hstep : ∀ (r : gk_Res) (w' : gk_Wd), gk_W none (d + 4) 64 14 [some (.ref 15), some (.ref (3 + 1)), some (.int (Int32.ofNat k)), some (.int (Int32.ofNat (j + 1)))] [] w2 r w' → gk_W none (d + 4) 64 14 [some (.ref 15), some (.ref (3 + 1)), some (.int (Int32.ofNat k)), some (.int (Int32.ofNat j))] [] w2 r w' := fun r w' h => by
              refine sg_64_14 (d := d + 3) hS rs_3 _ _ ⟨fun q => absurd q hlj, fun _ => ⟨RS_out hR hk, RS_out hR hjl, fun _ => by rw [i_s]; exact h, fun q => ⟨RS_out hR hk, _, by rw [efk]; exact c1, RS_out hR hjl, _, by rw [efj]; exact c2, fun _ => by rw [i_s]; exact h, fun q2 => ?_⟩⟩⟩
              exact absurd ⟨eq.mp q, q2⟩ hc
            rcases ih (j + 1) (by omega) (by omega) (fun j' hj' h1 h2 h3 => by
              by_cases e : j' = j
              · subst e; exact Classical.byContradiction fun q => hc ⟨h3, q⟩
              · exact hall j' hj' h1 (by omega) h3) with ⟨h1, h2⟩ | ⟨h1, h2⟩
            · left; exact ⟨h1, fun r w' h => hstep r w' (h2 r w' h)⟩
            · right; exact ⟨h1, hstep _ _ h2⟩
      rcases hin (G.length - (k + 1)) (k + 1) (by omega) (by omega) (fun j' _ h1 h2 => by omega) with ⟨h1, h2⟩ | ⟨h1, h2⟩
      · left
        refine ⟨(), w2, ⟨rfl, fun i j hi hj hik hij he => ?_⟩, fun r w' h => sg_64_2 (d := d + 3) hS rs_3 _ ⟨fun q => absurd q hle, fun _ => by rw [i_s]; exact h2 r w' h⟩⟩
        by_cases e : i = k
        · subst e; exact h1 j hj hij he
        · exact hn i j hi hj (by omega) hij he
      · right
        exact ⟨.inl (some (.int (bI false))), w2, ⟨rfl, false, ⟨fun q => (by cases q), fun q => absurd q h1⟩, rfl⟩, sg_64_2 (d := d + 3) hS rs_3 _ ⟨fun q => absurd q hle, fun _ => by rw [i_s]; exact h2⟩⟩)
    (fun _ w2 hI => by
      obtain ⟨rfl, hn⟩ := hI
      exact ⟨.inl (some (.int (bI true))), w2, ⟨rfl, true, ⟨fun _ i j hi hj hij he => hn i j hi hj hi hij he, fun _ => rfl⟩, rfl⟩, sg_64_2 (d := d + 3) hS rs_3 _ ⟨fun _ => ⟨rfl, rfl⟩, fun q => absurd ((RS_le hR (by omega)).mpr (Nat.le_refl _)) q⟩⟩)
    G.length 0 () w (by omega) ⟨rfl, fun i j hi hj h => by omega⟩
  exact ⟨b, hb, gk_E_i rfl rfl (sg_64_0 (d := d + 3) hS rs_3 g2)⟩
/-- choosing -/
theorem E202 (hS : gk_Sh rr w) (hR : RM w 4 28 G) (hN : BA w 38 N) (hF : TB w 41 F) (hW : TB w 42 W) {i : Nat} (hi : i < G.length) : gk_E (d + 3) 202 [.ref 27, .int (Int32.ofNat i)] w (.inl (some (.int (beh N F (W G[i].1) G[i].2)))) w := by
  have hok := RM_ok hR hi
  have h22 : ∀ x ∈ G[i].2.drop 0, x < 22 := fun x hx => hok.2.2 x hx
  have el := RM_left hR hi
  refine gk_E_i rfl rfl (sg_202_0 (d := d + 2) hS _ ⟨_, E197 (d := d) hS hR hN hF hi (k := 0) (by omega), fun q => ⟨?_, rfl⟩, fun q => ⟨RM_out hR hi, by rw [el]; exact o16 hok.1, ?_, rfl⟩⟩)
  · rw [ff_64 h22] at q
    rw [ff_n q]
    rw [List.drop_zero] at q ⊢
    rw [beh_n q]
  · rw [ff_64 h22] at q
    rw [ff_63 h22, TB_at hW el hok.1]
    rw [List.drop_zero] at q ⊢
    rw [beh_t (by simpa using q)]
/-- single of the reference, behind findFollows -/
theorem E201_l (hS : gk_Sh rr w) (hR : RM w 4 28 G) (hN : BA w 38 N) (hF : TB w 41 F) (hW : TB w 42 W) : ∃ b : Bool, (b = true ↔ sgP N F W G) ∧ gk_W none (d + 4) 201 13 [some (.ref 27), some (.int 1), some (.int (Int32.ofNat 0)), none] [] w (.inl (some (.int (bI b)))) w := by
  have h60 := RM_60 hR
  obtain ⟨b, w1, ⟨rfl, hb⟩, g1⟩ := up_loop (α := Bool) (d := d + 4) (mi := 201) (pc := 13) G.length (fun k b => [some (.ref 27), some (.int (bI b)), some (.int (Int32.ofNat k)), none])
    (fun k b w1 => w1 = w ∧ (b = true ↔ ∀ (i j : Nat) (hi : i < G.length) (hj : j < G.length), i < k → i < j → G[i].1 = G[j].1 → (beh N F (W G[i].1) G[i].2 &&& beh N F (W G[j].1) G[j].2) = 0))
    (fun k b w1 hk hI => by
      obtain ⟨rfl, hb⟩ := hI
      have hle : ¬ w_i w1 26 4 ≤ Int32.ofNat k := fun q => absurd ((RM_le hR (by omega)).mp q) (by omega)
      have elk := RM_left hR hk
      have hokk := (RM_ok hR hk).1
      obtain ⟨b2, w2, ⟨rfl, hj1, hb2⟩, g2⟩ := up_loop (α := Bool) (d := d + 4) (mi := 201) (pc := 25) G.length (fun j b => [some (.ref 27), some (.int (bI b)), some (.int (Int32.ofNat k)), some (.int (Int32.ofNat j))])
        (fun j b2 w2 => w2 = w1 ∧ k < j ∧ (b2 = true ↔ b = true ∧ ∀ (j' : Nat) (hj : j' < G.length), k < j' → j' < j → G[k].1 = G[j'].1 → (beh N F (W G[k].1) G[k].2 &&& beh N F (W G[j'].1) G[j'].2) = 0))
        (fun j b2 w2 hj hI => by
          obtain ⟨rfl, hkj, hb2⟩ := hI
          have elj := RM_left hR hj
          have hokj := (RM_ok hR hj).1
          have hlj : ¬ w_i w2 26 4 ≤ Int32.ofNat j := fun q => absurd ((RM_le hR (by omega)).mp q) (by omega)
          have eq : (w_a w2 28).getD (Int32.ofNat k).toNatClampNeg 0 = (w_a w2 28).getD (Int32.ofNat j).toNatClampNeg 0 ↔ G[k].1 = G[j].1 := by
            rw [elk, elj]; exact i_eq (by omega) (by omega)
          have c1 := E202 (d := d) hS hR hN hF hW hk
          have c2 := E202 (d := d) hS hR hN hF hW hj
          by_cases hc : G[k].1 = G[j].1 ∧ ¬ (beh N F (W G[k].1) G[k].2 &&& beh N F (W G[j].1) G[j].2) = 0
          · refine ⟨false, w2, ⟨rfl, by omega, fun q => (by cases q), fun q => absurd (q.2 j hj hkj (by omega) hc.1) hc.2⟩, fun r w' h => sg_201_25 (d := d + 3) hS _ _ _ ⟨fun q => absurd q hlj, fun _ => ⟨RM_out hR hk, RM_out hR hj, fun q => absurd (eq.mpr hc.1) q, fun _ => ⟨_, c1, _, c2, fun q => absurd q hc.2, fun _ => by rw [i_s]; exact h⟩⟩⟩⟩
          · refine ⟨b2, w2, ⟨rfl, by omega, ?_⟩, fun r w' h => sg_201_25 (d := d + 3) hS _ _ _ ⟨fun q => absurd q hlj, fun _ => ⟨RM_out hR hk, RM_out hR hj, fun _ => by rw [i_s]; exact h, fun q => ⟨_, c1, _, c2, fun _ => by rw [i_s]; exact h, fun q2 => absurd ⟨eq.mp q, q2⟩ hc⟩⟩⟩⟩
            rw [hb2]
            refine and_congr_right fun _ => ⟨fun q j' hj' h1 h2 h3 => ?_, fun q j' hj' h1 h2 h3 => q j' hj' h1 (by omega) h3⟩
            by_cases e : j' = j
            · subst e; exact Classical.byContradiction fun q => hc ⟨h3, q⟩
            · exact q j' hj' h1 (by omega) h3) (G.length - (k + 1)) (k + 1) b w1 (by omega) ⟨rfl, by omega, fun h => ⟨h, fun j' _ h1 h2 => by omega⟩, fun h => h.1⟩
      refine ⟨b2, w2, ⟨rfl, ?_⟩, fun r w' h => sg_201_13 (d := d + 3) hS _ _ ⟨fun q => absurd q hle, fun _ => ?_⟩⟩
      · rw [hb2, hb]
        constructor
        · rintro ⟨q1, q2⟩ i j hi hj hik hij he
          by_cases e : i = k
          · subst e; exact q2 j hj hij hj he
          · exact q1 i j hi hj (by omega) hij he
        · intro q
          exact ⟨fun i j hi hj hik hij he => q i j hi hj (by omega) hij he, fun j' hj' h1 _ h3 => q k j' hk hj' (by omega) h1 h3⟩
      · rw [i_s]
        exact g2 r w' (sg_201_25 (d := d + 3) hS _ _ _ ⟨fun _ => by rw [i_s]; exact h, fun q => absurd ((RM_le hR (by omega)).mpr (Nat.le_refl _)) q⟩)) G.length 0 true w (by omega) ⟨rfl, fun _ i j hi hj h => by omega, fun _ => rfl⟩
  refine ⟨b, ?_, g1 _ _ (sg_201_13 (d := d + 3) hS _ _ ⟨fun _ => ⟨bI_b _, rfl, rfl⟩, fun q => absurd ((RM_le hR (by omega)).mpr (Nat.le_refl _)) q⟩)⟩
  rw [hb]
  exact ⟨fun h i j hi hj hij he => h i j hi hj hi hij he, fun h i j hi hj _ hij he => h i j hi hj hij he⟩
end SG
