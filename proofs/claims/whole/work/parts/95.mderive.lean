/-! part 69: derive of the reference -/
section MD
variable {d : Nat} {rr : List gk_S} {w : gk_Wd} {wd : List Nat} {E : Nat → Nat → Int32} {G : List Rl}
/-- isGreibach -/
theorem E41 (hS : gk_Sh rr w) {r : Rl} (hr : okR r) : gk_E (d + 2) 41 [.long (pk r)] w (.inl (some (.int (bI (gbB r))))) w := by
  have h10 := hr.2.1
  by_cases h0 : r.2.length = 0
  · have e : gbB r = false := by
      unfold gbB; rw [decide_eq_false (fun q => by have := q.1; omega)]; rfl
    rw [e]
    exact gk_E_i rfl rfl (sg_41_0 (d := d) hS _ ⟨fun _ => ⟨rfl, rfl⟩, fun q => absurd h0 ((f_39_pk hr).mp q)⟩)
  · have hp : 0 < r.2.length := by omega
    have y39 : f_39 (pk r) = 0 := (f_39_pk hr).mpr h0
    by_cases h16 : r.2.headD 0 < 16
    · have e : gbB r = false := by
        unfold gbB; rw [decide_eq_false (fun q => by have := q.2; omega)]; rfl
      have n42 : ¬ f_42 (pk r) = 0 := by
        rw [f_42_pk hr]; unfold lvB; rw [decide_eq_true ⟨hp, h16⟩]; decide
      rw [e]
      exact gk_E_i rfl rfl (sg_41_0 (d := d) hS _ ⟨fun q => absurd y39 q, fun _ => ⟨fun q => absurd q n42, fun _ => ⟨rfl, rfl⟩⟩⟩)
    · have y42 : f_42 (pk r) = 0 := by
        rw [f_42_pk hr]; unfold lvB; exact decide_eq_false fun q => h16 q.2
      have e : gbB r = (r.2.drop 1).all fun x => decide (x < 16) := by
        unfold gbB; rw [decide_eq_true ⟨hp, by omega⟩]; rfl
      rw [e]
      have loop : ∀ (m k : Nat), k + m = r.2.length → 1 ≤ k → gk_W none (d + 2) 41 18 [some (.long (pk r)), none, some (.int (Int32.ofNat (k + 1)))] [] w (.inl (some (.int (bI ((r.2.drop k).all fun x => decide (x < 16)))))) w := by
        intro m
        induction m with
        | zero =>
          intro k hk _
          rw [List.drop_eq_nil_of_le (by omega)]
          exact sg_41_18 (d := d) hS _ _ ⟨fun _ => ⟨rfl, rfl⟩, fun q => absurd (len_t hr (by omega) (by omega)) q⟩
        | succ m ih =>
          intro k hk hk1
          have hkl : k < r.2.length := by omega
          have hs := hr.2.2 _ (List.getElem_mem hkl)
          rw [List.drop_eq_getElem_cons hkl, List.all_cons]
          refine sg_41_18 (d := d) hS _ _ ⟨fun q => absurd q (len_f hr (by omega)), fun _ => ⟨fun q => ?_, fun q => ?_⟩⟩
          · rw [f_26_pk hr hkl, f_28_0 (by omega)] at q
            rw [decide_eq_true (show r.2[k] < 16 by omega), Bool.true_and, i_s]
            exact ih (k + 1) (by omega) (by omega)
          · rw [f_26_pk hr hkl, f_28_0 (by omega)] at q
            rw [decide_eq_false (show ¬ r.2[k] < 16 by omega)]
            exact ⟨rfl, rfl⟩
      exact gk_E_i rfl rfl (sg_41_0 (d := d) hS _ ⟨fun q => absurd y39 q, fun _ => ⟨fun _ => loop (r.2.length - 1) 1 (by omega) (by omega), fun q => absurd y42 q⟩⟩)
/-- isForm -/
theorem E191 (hS : gk_Sh rr w) (hR : RM w 4 28 G) : gk_E (d + 1) 191 [.ref 27] w (.inl (some (.int (bI (G.all gbB))))) w := by
  have h60 := RM_60 hR
  obtain ⟨b, w1, ⟨rfl, hb⟩, g1⟩ := up_loop (α := Bool) (d := d + 1) (mi := 191) (pc := 4) G.length (fun k b => [some (.ref 27), some (.int (bI b)), some (.int (Int32.ofNat k)), none])
    (fun k b w1 => w1 = w ∧ b = (G.take k).all gbB)
    (fun k b w1 hk hI => by
      obtain ⟨rfl, hb⟩ := hI
      have hok := RM_ok hR hk
      have h10 := hok.2.1
      have hle : ¬ w_i w1 26 4 ≤ Int32.ofNat k := fun q => absurd ((RM_le hR (by omega)).mp q) (by omega)
      have et : (G.take (k + 1)).all gbB = (b && gbB G[k]) := by
        rw [List.take_succ_eq_append_getElem hk, List.all_append, hb]; simp
      have inner : ∀ (m j : Nat) (c : Bool), j + m = G[k].2.length → Go (d + 1) 191 45 [some (.ref 27), some (.int (bI c)), some (.int (Int32.ofNat k)), some (.int (Int32.ofNat j))] w1 4 [some (.ref 27), some (.int (bI (c && (G[k].2.drop j).all fun x => decide (x < 16)))), some (.int (Int32.ofNat (k + 1))), none] w1 := by
        intro m
        induction m with
        | zero =>
          intro j c hj r w' h
          rw [List.drop_eq_nil_of_le (by omega), List.all_nil, Bool.and_true] at h
          exact sg_191_45 hS _ _ _ ⟨RM_out hR hk, fun _ => by rw [i_s]; exact h, fun q => absurd ((RM_sz hR hk (by omega)).mpr (by omega)) q⟩
        | succ m ih =>
          intro j c hj r w' h
          have hjl : j < G[k].2.length := by omega
          have ea := RM_at hR hk hjl
          have hs := hok.2.2 _ (List.getElem_mem hjl)
          have hsz : ¬ (w_a w1 29).getD (Int32.ofNat k).toNatClampNeg 0 ≤ Int32.ofNat j := fun q => absurd ((RM_sz hR hk (by omega)).mp q) (by omega)
          rw [List.drop_eq_getElem_cons hjl, List.all_cons] at h
          cases c with
          | false =>
            exact sg_191_45 hS _ _ _ ⟨RM_out hR hk, fun q => absurd q hsz, fun _ => ⟨fun _ => by rw [i_s]; exact ih (j + 1) false (by omega) r w' h, fun q => absurd rfl q⟩⟩
          | true =>
            refine sg_191_45 hS _ _ _ ⟨RM_out hR hk, fun q => absurd q hsz, fun _ => ⟨fun q => absurd q (by decide), fun _ => ⟨RM_io hR hk (by omega), fun q => ?_, fun q => ?_⟩⟩⟩
            · rw [ea, f_163_n (by omega)] at q
              rw [decide_eq_false (show ¬ G[k].2[j] < 16 by omega)] at h
              rw [i_s]; exact ih (j + 1) false (by omega) r w' h
            · rw [ea, f_163_n (by omega)] at q
              rw [decide_eq_true (show G[k].2[j] < 16 by omega), Bool.true_and] at h
              rw [i_s]; exact ih (j + 1) true (by omega) r w' h
      have hz : ∀ (r : gk_Res) (w' : gk_Wd), gk_W none (d + 1) 191 4 [some (.ref 27), some (.int (bI false)), some (.int (Int32.ofNat (k + 1))), none] [] w1 r w' → gk_W none (d + 1) 191 45 [some (.ref 27), some (.int 0), some (.int (Int32.ofNat k)), some (.int (Int32.ofNat 1))] [] w1 r w' := fun r w' h => by
        by_cases h0 : G[k].2.length = 0
        · exact sg_191_45 hS _ _ _ ⟨RM_out hR hk, fun _ => by rw [i_s]; exact h, fun q => absurd ((RM_sz hR hk (by omega)).mpr (by omega)) q⟩
        · exact inner (G[k].2.length - 1) 1 false (by omega) r w' h
      refine ⟨b && gbB G[k], w1, ⟨rfl, et.symm⟩, fun r w' h => ?_⟩
      cases b with
      | false => exact sg_191_4 hS _ _ ⟨fun q => absurd q hle, fun _ => ⟨fun _ => hz r w' h, fun q => absurd rfl q⟩⟩
      | true =>
        rw [Bool.true_and] at h
        by_cases h0 : 0 < G[k].2.length
        · have h22 := hd_22 hok h0
          by_cases h16 : G[k].2.headD 0 < 16
          · have e : gbB G[k] = false := by
              unfold gbB; rw [decide_eq_false (fun q => by have := q.2; omega)]; rfl
            rw [e] at h
            refine sg_191_4 hS _ _ ⟨fun q => absurd q hle, fun _ => ⟨fun q => absurd q (by decide), fun _ => ⟨RM_out hR hk, fun q => hz r w' h, fun q => ⟨RM_io hR hk (k := 0) (by omega), fun _ => hz r w' h, fun q2 => ?_⟩⟩⟩⟩
            rw [RM_hd hR hk h0, f_163_n (by omega)] at q2; omega
          · have e : gbB G[k] = (G[k].2.drop 1).all fun x => decide (x < 16) := by
              unfold gbB; rw [decide_eq_true ⟨h0, by omega⟩]; rfl
            rw [e] at h
            refine sg_191_4 hS _ _ ⟨fun q => absurd q hle, fun _ => ⟨fun q => absurd q (by decide), fun _ => ⟨RM_out hR hk, fun q => absurd h0 ((RM_sz0 hR hk).mp q), fun q => ⟨RM_io hR hk (k := 0) (by omega), fun q2 => ?_, fun _ => inner (G[k].2.length - 1) 1 true (by omega) r w' (by rw [Bool.true_and]; exact h)⟩⟩⟩⟩
            rw [RM_hd hR hk h0, f_163_n (by omega)] at q2
            exact absurd (by omega) q2
        · have e : gbB G[k] = false := by
            unfold gbB; rw [decide_eq_false (fun q => h0 q.1)]; rfl
          rw [e] at h
          exact sg_191_4 hS _ _ ⟨fun q => absurd q hle, fun _ => ⟨fun q => absurd q (by decide), fun _ => ⟨RM_out hR hk, fun q => hz r w' h, fun q => absurd ((RM_sz0 hR hk).mpr h0) q⟩⟩⟩) G.length 0 true w (by omega) ⟨rfl, by simp⟩
  rw [List.take_of_length_le (Nat.le_refl _)] at hb
  subst hb
  exact gk_E_i rfl rfl (sg_191_0 hS (g1 _ _ (sg_191_4 hS _ _ ⟨fun _ => ⟨bI_b _, rfl, rfl⟩, fun q => absurd ((RM_le hR (by omega)).mpr (Nat.le_refl _)) q⟩)))
/-- canEnd -/
theorem E214 (hS : gk_Sh rr w) (hW : WM w wd) (hE : TE w 44 E) {rv : List Nat} (hP : PK w 26 30 47 rv) {p : Nat} : gk_E (d + 2) 214 [.ref 27, .int (Int32.ofNat p)] w (.inl (some (.int (bI (bt (row wd E rv.reverse (bp p)) wd.length))))) w := by
  have hL := hW.2.1
  have hl20 := hP.2.1
  obtain ⟨Y, w1, ⟨hk, rfl, hY⟩, g1⟩ := dn_loop (α := Int32) (d := d + 2) (mi := 214) (pc := 11) (fun k Y => [some (.ref 27), none, some (.int Y), some (.int (Int32.ofNat k - 1))])
    (fun k Y w1 => k ≤ rv.length ∧ w1 = w ∧ row wd E (rv.take k).reverse Y = row wd E rv.reverse (bp p))
    (fun k Y w1 hI => by
      obtain ⟨hk, rfl, hY⟩ := hI
      have hkl : k < rv.length := by omega
      have hk16 : rv[k] < 16 := hP.2.2.1 _ (List.getElem_mem hkl)
      have eg : (w_a w1 47).getD (Int32.ofNat k).toNatClampNeg 0 = Int32.ofNat rv[k] := by
        rw [i_nat (by omega)]; exact hP.2.2.2 k _ (List.getElem?_eq_getElem hkl)
      rw [List.take_succ_eq_append_getElem hkl, List.reverse_append, List.reverse_singleton, List.singleton_append, row_cons] at hY
      refine ⟨rc wd E rv[k] Y, w1, ⟨by omega, rfl, hY⟩, fun r w' h => ?_⟩
      rw [i_down]
      refine sg_214_11 (d := d + 1) hS _ _ ⟨fun q => absurd q (i_neg (by omega)), fun _ => ⟨o_ok (by omega) (by omega), _, by rw [eg]; exact E207 (d := d) hS hW hE (by omega) Y, by rw [i_m1]; exact h⟩⟩) rv.length (bp p) w ⟨Nat.le_refl _, rfl, by rw [List.take_of_length_le (Nat.le_refl _)]⟩
  have hY2 : Y = row wd E rv.reverse (bp p) := by simpa [row] using hY
  have hb := bt_is1 Y (v := wd.length) (by omega)
  refine gk_E_i rfl rfl (sg_214_0 (d := d + 1) hS _ ?_)
  rw [hP.1]
  refine g1 _ _ (sg_214_11 (d := d + 1) hS _ _ ⟨fun _ => ⟨fun q => ⟨?_, rfl⟩, fun q => ⟨?_, rfl⟩⟩, fun q => absurd i_z1 q⟩)
  · rw [hW.1, hb, hY2] at q
    have : bt (row wd E rv.reverse (bp p)) wd.length = false := by simpa using q
    rw [this]; rfl
  · rw [hW.1, hb, hY2] at q
    rw [q]; rfl
/-- the stack's lower part -/
def LK (w : gk_Wd) (rv : List Nat) : Prop := ∀ i s, rv[i]? = some s → (w_a w 47).getD i 0 = Int32.ofNat s
theorem E213_l (hL : wd.length ≤ 10) (hG : ∀ r ∈ G, gbB r = true) {rv : List Nat} {v p : Nat} (hrv : ∀ x ∈ rv, x < 16) (hv : v < 16) (hp : p < wd.length) (hlen : rv.length ≤ 9) {i : Nat} (hi : fstI (fitB wd E v rv p) G = some i) : ∀ (m k : Nat) (w : gk_Wd), gk_Sh rr w → RM w 4 28 G → WM w wd → TE w 44 E → LK w rv → k + m = G.length → fsN (fun k => (G[k]?).any (fitB wd E v rv p)) k = none →
    ∃ w1, gk_Sh rr w1 ∧ Fr [47] [(26, 30)] w w1 ∧ PK w1 26 30 47 (rv ++ ((G.getD i (0, [])).2.drop 1).reverse) ∧ gk_W none (d + 3) 213 28 [some (.ref 27), some (.int (Int32.ofNat p)), some (.int (Int32.ofNat v)), some (.int (Int32.ofNat rv.length)), some (.int (Int32.ofNat k)), none] [] w (.inl (some (.int (Int32.ofNat i)))) w1
  | 0, k, w, hS, hR, hW, hE, hK, hk, h0 => by
    obtain rfl : k = G.length := by omega
    have : fstI (fitB wd E v rv p) G = none := h0
    rw [hi] at this; cases this
  | m + 1, k, w, hS, hR, hW, hE, hK, hk, h0 => by
    have h60 := RM_60 hR
    have hkl : k < G.length := by omega
    have hok := RM_ok hR hkl
    have h16 := hok.1
    have h10 := hok.2.1
    have el := RM_left hR hkl
    have hle : ¬ w_i w 26 4 ≤ Int32.ofNat k := fun q => absurd ((RM_le hR (by omega)).mp q) (by omega)
    obtain ⟨a, vs, ev, ha, hvs⟩ := gbB_eq (hG _ (List.getElem_mem hkl))
    have hl0 : 0 < G[k].2.length := by rw [ev]; simp
    have hhd : G[k].2.headD 0 = a := by rw [ev]; rfl
    have hdr : G[k].2.drop 1 = vs := by rw [ev]; rfl
    have ha22 : a < 22 := by rw [← hhd]; exact hd_22 hok hl0
    have ehd := RM_hd hR hkl hl0
    have hws := hW.2.2.1 _ (List.getElem_mem hp)
    have ewd : (w_a w 43).getD (Int32.ofNat p).toNatClampNeg 0 = Int32.ofNat wd[p] := by
      rw [i_nat (by omega)]; exact hW.2.2.2 p _ (List.getElem?_eq_getElem hp)
    have erow : row wd E G[k].2 (bp p) = if wd[p] = a then row wd E vs (bp (p + 1)) else 0 := by
      rw [ev, row_cons, rc_letter hL ha (by omega), List.getElem?_eq_getElem hp]
      by_cases e : wd[p] = a
      · rw [if_pos (by rw [e]), if_pos e]
      · rw [if_neg (fun q => e (Option.some.inj q)), if_neg e, row_0]
    have next : fitB wd E v rv p G[k] = false → ∀ w2, gk_Sh rr w2 → Fr [47] [(26, 30)] w w2 → LK w2 rv → ∃ w1, gk_Sh rr w1 ∧ Fr [47] [(26, 30)] w w1 ∧ PK w1 26 30 47 (rv ++ ((G.getD i (0, [])).2.drop 1).reverse) ∧ gk_W none (d + 3) 213 28 [some (.ref 27), some (.int (Int32.ofNat p)), some (.int (Int32.ofNat v)), some (.int (Int32.ofNat rv.length)), some (.int (Int32.ofNat k + 1)), none] [] w2 (.inl (some (.int (Int32.ofNat i)))) w1 := fun hf w2 s2 f2 K2 => by
      obtain ⟨w3, s3, f3, P3, g3⟩ := E213_l hL hG hrv hv hp hlen hi m (k + 1) w2 s2 (RM_Fr hR f2 (by decide) (by decide)) (WM_Fr hW f2 (by decide) (by decide)) (TE_congr hE (Fr_a f2 (by decide))) K2 (by omega) (by rw [fsN_miss (by rw [anyAt hkl]; exact hf)]; exact h0)
      exact ⟨w3, s3, Fr_trans f2 f3, P3, by rw [i_s]; exact g3⟩
    by_cases hm : G[k].1 = v ∧ wd[p] = a
    · obtain ⟨hm1, hm2⟩ := hm
      have efit : fitB wd E v rv p G[k] = bt (row wd E (rv ++ vs.reverse).reverse (bp (p + 1))) wd.length := by
        unfold fitB
        rw [decide_eq_true hm1, erow, if_pos hm2, List.reverse_append, List.reverse_reverse, row_app]; rfl
      have s1 := sh_si hS ly_26 (k := 30) rfl (Int32.ofNat rv.length)
      have f1 : Fr [47] [(26, 30)] w (w_si w 26 30 (Int32.ofNat rv.length)) := Fr_si (by decide) _
      have P1 : PK (w_si w 26 30 (Int32.ofNat rv.length)) 26 30 47 rv := ⟨w_i_same hS ly_26 rfl, by omega, hrv, fun j s hj => by rw [w_a_si]; exact hK j s hj⟩
      have esz : (w_a (w_si w 26 30 (Int32.ofNat rv.length)) 29).getD (Int32.ofNat k).toNatClampNeg 0 - 1 = Int32.ofNat (G[k].2.length - 1) := by
        have es : (w_a w 29).getD (Int32.ofNat k).toNatClampNeg 0 = Int32.ofNat G[k].2.length := RM_size hR hkl
        rw [w_a_si, es, show (1 : Int32) = Int32.ofNat 1 from rfl, i_sub (by omega)]
      obtain ⟨-, w2, ⟨hj2, s2, f2, P2⟩, g2⟩ := dn_loop (α := Unit) (d := d + 3) (mi := 213) (pc := 83) (fun j _ => [some (.ref 27), some (.int (Int32.ofNat p)), some (.int (Int32.ofNat v)), some (.int (Int32.ofNat rv.length)), some (.int (Int32.ofNat k)), some (.int (Int32.ofNat j))])
        (fun j _ w2 => j + 1 ≤ G[k].2.length ∧ gk_Sh rr w2 ∧ Fr [47] [(26, 30)] w w2 ∧ PK w2 26 30 47 (rv ++ (G[k].2.drop (j + 1)).reverse))
        (fun j _ w2 hI => by
          obtain ⟨hj, s2, f2, P2⟩ := hI
          have hjl : j + 1 < G[k].2.length := by omega
          have R2 : RM w2 4 28 G := RM_Fr hR f2 (by decide) (by decide)
          have hlen2 : (rv ++ (G[k].2.drop (j + 1 + 1)).reverse).length = rv.length + (G[k].2.length - (j + 2)) := by simp
          have hx : G[k].2[j + 1] < 16 := hvs _ (by
            rw [← hdr, List.mem_iff_getElem]
            exact ⟨j, by simp; omega, by rw [List.getElem_drop]; congr 1; omega⟩)
          have ed : G[k].2.drop (j + 1) = G[k].2[j + 1] :: G[k].2.drop (j + 1 + 1) := List.drop_eq_getElem_cons hjl
          have P3 := PK_push s2 ly_26 rfl ly_47 (by omega) P2 (by omega) hx
          have n0 : ¬ Int32.ofNat (j + 1) ≤ 0 := fun q => absurd ((i_le (b := 0) (by omega) (by omega)).mp q) (by omega)
          refine ⟨(), _, ⟨by omega, sh_si (sh_as s2 ly_47 (rv ++ (G[k].2.drop (j + 1 + 1)).reverse).length (Int32.ofNat G[k].2[j + 1])) ly_26 (k := 30) rfl (Int32.ofNat ((rv ++ (G[k].2.drop (j + 1 + 1)).reverse).length + 1)), Fr_trans f2 (Fr_trans (Fr_sa (by decide) _) (Fr_si (by decide) _)), ?_⟩, fun x w' h => sg_213_83 (d := d + 2) s2 _ _ _ _ _ ⟨fun q => absurd q n0, fun _ => ⟨RM_io R2 hkl (by omega), by rw [P2.1]; exact o_ok (by omega) (by omega), ?_⟩⟩⟩
          · rw [ed, List.reverse_cons, ← List.append_assoc]; exact P3
          · rw [w_i_sa, P2.1, i_nat (by omega), RM_at R2 hkl hjl, i_s, i_m1, i_down]; exact h) (G[k].2.length - 1) () _ ⟨by omega, s1, f1, by rw [List.drop_eq_nil_of_le (by omega)]; simpa using P1⟩
      have P2' : PK w2 26 30 47 (rv ++ vs.reverse) := by rw [← hdr]; exact P2
      have e214 := E214 (d := d) s2 (WM_Fr hW f2 (by decide) (by decide)) (TE_congr hE (Fr_a f2 (by decide))) P2' (p := p + 1)
      rw [← efit] at e214
      have q1 : (w_a w 28).getD (Int32.ofNat k).toNatClampNeg 0 = Int32.ofNat v := by rw [el, hm1]
      have q2 : f_151 w (Int32.ofNat k) 0 = (w_a w 43).getD (Int32.ofNat p).toNatClampNeg 0 := by rw [ehd, ewd, hhd, hm2]
      have hgo : ∀ (r : gk_Res) (w' : gk_Wd), gk_W none (d + 3) 213 83 [some (.ref 27), some (.int (Int32.ofNat p)), some (.int (Int32.ofNat v)), some (.int (Int32.ofNat rv.length)), some (.int (Int32.ofNat k)), some (.int (Int32.ofNat 0))] [] w2 r w' → gk_W none (d + 3) 213 28 [some (.ref 27), some (.int (Int32.ofNat p)), some (.int (Int32.ofNat v)), some (.int (Int32.ofNat rv.length)), some (.int (Int32.ofNat k)), none] [] w r w' := fun r w' h => by
        refine sg_213_28 (d := d + 2) hS _ _ _ _ ⟨fun q => absurd q hle, fun _ => ⟨RM_out hR hkl, fun q => absurd q1 q, fun _ => ⟨RM_io hR hkl (k := 0) (by omega), o_ok (by omega) (by omega), fun _ => ⟨RM_out hR hkl, ?_⟩, fun q => absurd q2 q⟩⟩⟩
        rw [esz]; exact g2 r w' h
      cases hf : fitB wd E v rv p G[k] with
      | true =>
        rw [hf] at e214
        have hik : i = k := by
          have : fstI (fitB wd E v rv p) G = some k := fsN_hit h0 (by rw [anyAt hkl]; exact hf) hkl
          rw [hi] at this; exact Option.some.inj this
        subst hik
        refine ⟨w2, s2, f2, by rw [getD_R hkl, hdr]; exact P2', hgo _ _ (sg_213_83 (d := d + 2) s2 _ _ _ _ _ ⟨fun _ => ⟨_, by rw [i_s]; exact e214, fun q => absurd q (by decide), fun _ => ⟨rfl, rfl⟩⟩, fun q => absurd (by decide) q⟩)⟩
      | false =>
        rw [hf] at e214
        obtain ⟨w3, s3, f3, P3, g3⟩ := next hf w2 s2 f2 (fun j s hj => by
          refine P2.2.2.2 j s ?_
          rw [List.getElem?_append_left (List.getElem?_eq_some_iff.mp hj).1]; exact hj)
        exact ⟨w3, s3, f3, P3, hgo _ _ (sg_213_83 (d := d + 2) s2 _ _ _ _ _ ⟨fun _ => ⟨_, by rw [i_s]; exact e214, fun _ => g3, fun q => absurd rfl q⟩, fun q => absurd (by decide) q⟩)⟩
    · have hf : fitB wd E v rv p G[k] = false := by
        unfold fitB
        by_cases e1 : G[k].1 = v
        · have e2 : ¬ wd[p] = a := fun q => hm ⟨e1, q⟩
          rw [erow, if_neg e2, row_0, bt_zero, Bool.and_false]
        · rw [decide_eq_false e1]; rfl
      obtain ⟨w3, s3, f3, P3, g3⟩ := next hf w hS Fr_refl hK
      refine ⟨w3, s3, f3, P3, sg_213_28 (d := d + 2) hS _ _ _ _ ⟨fun q => absurd q hle, fun _ => ⟨RM_out hR hkl, fun _ => g3, fun q => ⟨RM_io hR hkl (k := 0) (by omega), o_ok (by omega) (by omega), fun q2 => ?_, fun _ => g3⟩⟩⟩⟩
      rw [el, i_eq (by omega) (by omega)] at q
      rw [ehd, ewd, hhd, i_eq (by omega) (by omega)] at q2
      exact absurd ⟨q, q2.symm⟩ hm
/-- chooseRule -/
theorem E213 (hS : gk_Sh rr w) (hR : RM w 4 28 G) (hW : WM w wd) (hE : TE w 44 E) (hG : ∀ r ∈ G, gbB r = true) {rv : List Nat} {v p : Nat} (hP : PK w 26 30 47 (rv ++ [v])) (hp : p < wd.length) (hlen : rv.length ≤ 9) {i : Nat} (hi : chn wd E G (rv ++ [v]) p = some i) : ∃ w', gk_E (d + 3) 213 [.ref 27, .int (Int32.ofNat p)] w (.inl (some (.int (Int32.ofNat i)))) w' ∧ gk_Sh rr w' ∧ Fr [47] [(26, 30)] w w' ∧ PK w' 26 30 47 (rv ++ ((G.getD i (0, [])).2.drop 1).reverse) := by
  have ec : chn wd E G (rv ++ [v]) p = fstI (fitB wd E v rv p) G := by
    unfold chn
    rw [getLastD_app, List.dropLast_concat]
  rw [ec] at hi
  have s1 := sh_si hS ly_26 (k := 30) rfl (w_i w 26 30 - 1)
  have e1 : w_i w 26 30 - 1 = Int32.ofNat rv.length := by rw [hP.1, List.length_append, List.length_singleton, i_down]
  have e2 : w_i (w_si w 26 30 (w_i w 26 30 - 1)) 26 30 = Int32.ofNat rv.length := by rw [w_i_same hS ly_26 rfl, e1]
  have f1 : Fr [47] [(26, 30)] w (w_si w 26 30 (w_i w 26 30 - 1)) := Fr_si (by decide) _
  have etop : (w_a (w_si w 26 30 (w_i w 26 30 - 1)) 47).getD (w_i (w_si w 26 30 (w_i w 26 30 - 1)) 26 30).toNatClampNeg 0 = Int32.ofNat v := by
    rw [e2, i_nat (by omega), w_a_si]
    exact hP.2.2.2 rv.length v (by rw [List.getElem?_append_right (Nat.le_refl _), Nat.sub_self]; rfl)
  obtain ⟨w2, s2, f2, P2, g2⟩ := E213_l (d := d) hW.2.1 hG (fun x hx => hP.2.2.1 x (List.mem_append.mpr (Or.inl hx))) (hP.2.2.1 v (by simp)) hp hlen hi G.length 0 _ s1 (RM_Fr hR f1 (by decide) (by decide)) (WM_Fr hW f1 (by decide) (by decide)) (TE_congr hE (Fr_a f1 (by decide))) (fun j s hj => by
    rw [w_a_si]
    exact hP.2.2.2 j s (by rw [List.getElem?_append_left (List.getElem?_eq_some_iff.mp hj).1]; exact hj)) (by omega) rfl
  refine ⟨w2, gk_E_i rfl rfl (sg_213_0 (d := d + 2) hS _ ⟨by rw [e2]; exact o_ok (by omega) (by omega), ?_⟩), s2, Fr_trans f1 f2, P2⟩
  rw [etop, e2]; exact g2
end MD
