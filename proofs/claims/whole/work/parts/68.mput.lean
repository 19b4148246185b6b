/-! part 42: the reference's add; leaving symbols out -/
theorem posR_lt : ∀ {G : List Rl} {q : Rl} {k : Nat} (hk : k < G.length), k < posR q G → pkN G[k] < pkN q
  | g :: G, q, 0, hk, h => by
    rw [posR_cons] at h
    by_cases h1 : pkN g < pkN q
    · exact h1
    · rw [if_neg h1] at h; omega
  | g :: G, q, k + 1, hk, h => by
    rw [posR_cons] at h
    by_cases h1 : pkN g < pkN q
    · rw [if_pos h1] at h
      exact posR_lt (G := G) (by simp at hk; omega) (by omega)
    · rw [if_neg h1] at h; omega
theorem posR_ge (q : Rl) : ∀ (G : List Rl) (x : Rl), G[posR q G]? = some x → ¬ pkN x < pkN q
  | [], x, h => by simp at h
  | g :: G, x, h => by
    rw [posR_cons] at h
    by_cases h1 : pkN g < pkN q
    · rw [if_pos h1, List.getElem?_cons_succ] at h; exact posR_ge q G x h
    · rw [if_neg h1, List.getElem?_cons_zero] at h; cases h; exact h1
/-- the reference's rows and its mark that a limit was passed -/
def MA (w : gk_Wd) (p : Bool × List Rl) : Prop := RM w 4 28 p.2 ∧ srt p.2 ∧ w_i w 26 14 = bI p.1
def addA (p : Bool × List Rl) (o : Option Rl) : Bool × List Rl := if p.1 = true then p else match putR o p.2 with
  | some G => (false, G)
  | none => (true, p.2)
def mkR (x : Nat) (R : List Nat) : Option Rl := if R.length ≤ 10 then some (x, R) else none
section PU
variable {d : Nat} {rr : List gk_S} {w : gk_Wd} {G : List Rl} {R : List Nat}
theorem MA_congr {w' : gk_Wd} {p : Bool × List Rl} (h : MA w p) (h0 : w_i w' 26 14 = w_i w 26 14) (h1 : w_i w' 26 4 = w_i w 26 4) (h2 : w_a w' 28 = w_a w 28) (h3 : w_a w' 29 = w_a w 29) (h4 : w_a w' 30 = w_a w 30) : MA w' p := ⟨RM_congr h.1 h1 h2 h3 h4, h.2.1, by rw [h0]; exact h.2.2⟩
theorem E149_f (hS : gk_Sh rr w) (hR : RM w 4 28 G) (hG : RG w R) {x : Nat} (hq : okR (x, R)) {r : gk_Res} {w' : gk_Wd} (h : gk_W none (d + 2) 149 25 [some (.ref 27), some (.int (Int32.ofNat x)), some (.int (Int32.ofNat (posR (x, R) G))), none] [] w r w') : ∀ (m k : Nat), k + m = posR (x, R) G → gk_W none (d + 2) 149 25 [some (.ref 27), some (.int (Int32.ofNat x)), some (.int (Int32.ofNat k)), none] [] w r w'
  | 0, k, hk => by
    obtain rfl : k = posR (x, R) G := by omega
    exact h
  | m + 1, k, hk => by
    have hp := posR_le (x, R) G
    have h60 := RM_60 hR
    have hkl : k < G.length := by omega
    have hlt := posR_lt (q := (x, R)) hkl (by omega)
    have hn : ¬ w_i w 26 4 ≤ Int32.ofNat k := fun q => absurd ((RM_le hR (by omega)).mp q) (by omega)
    refine sg_149_25 (d := d + 1) hS _ _ ⟨fun q => absurd q hn, fun _ => ⟨_, E150 hS hR hG hq hkl, fun q => ?_, fun _ => ?_⟩⟩
    · rw [cmpR_lt hlt] at q; exact absurd q (by decide)
    · rw [i_s]; exact E149_f hS hR hG hq h m (k + 1) (by omega)
theorem E149_p (hS : gk_Sh rr w) (hR : RM w 4 28 G) (hs : srt G) (hG : RG w R) {x : Nat} (hq : okR (x, R)) (ho : w_i w 26 14 = 0) : ∃ (w' : gk_Wd) (v : Int32), gk_Sh rr w' ∧ Fr [28, 29, 30] [(26, 4), (26, 14)] w w' ∧ MA w' (addA (false, G) (some (x, R))) ∧ ((addA (false, G) (some (x, R))).1 = false → v = Int32.ofNat (posR (x, R) G)) ∧ gk_W none (d + 2) 149 25 [some (.ref 27), some (.int (Int32.ofNat x)), some (.int (Int32.ofNat 0)), none] [] w (.inl (some (.int v))) w' := by
  have hp := posR_le (x, R) G
  have h60 := RM_60 hR
  have hcnt : w_i w 26 4 = 60 ↔ G.length = 60 := by rw [hR.1]; exact i_eq (b := 60) (by omega) (by omega)
  by_cases hm : (x, R) ∈ G
  · have e : addA (false, G) (some (x, R)) = (false, G) := by simp [addA, putR, hm]
    have hpl := (posR_mem hs hR.2.2.1 hq).mp hm
    have hlt := (List.getElem?_eq_some_iff.mp hpl).1
    have hge : G[posR (x, R) G] = (x, R) := (List.getElem?_eq_some_iff.mp hpl).2
    have hn : ¬ w_i w 26 4 ≤ Int32.ofNat (posR (x, R) G) := fun q => absurd ((RM_le hR (by omega)).mp q) (by omega)
    have ec := E150 (d := d) hS hR hG hq hlt
    rw [hge, cmpR_eq] at ec
    rw [e]
    refine ⟨w, _, hS, Fr_refl, ⟨hR, hs, ho⟩, fun _ => rfl, E149_f hS hR hG hq ?_ (posR (x, R) G) 0 (by omega)⟩
    exact sg_149_25 (d := d + 1) hS _ _ ⟨fun q => absurd q hn, fun _ => ⟨0, ec, fun _ => ⟨fun q => absurd q hn, fun _ => ⟨0, ec, fun q => absurd rfl q, fun _ => ⟨rfl, rfl⟩⟩⟩, fun q => absurd (by decide) q⟩⟩
  · by_cases hl : G.length < 60
    · have e : addA (false, G) (some (x, R)) = (false, insR (x, R) G) := by simp [addA, putR, hm, hl]
      obtain ⟨w1, s1, f1, R1, g1⟩ := E149_new (d := d + 1) hS hR hG hq hl
      have hne : ¬ w_i w 26 4 = 60 := fun q => by have := hcnt.mp q; omega
      rw [← hR.1] at g1
      rw [e]
      refine ⟨w1, _, s1, Fr_mono f1 (by simp) (by simp), ⟨R1, insR_srt hs hR.2.2.1 hq hm, by rw [Fr_i f1 (by decide)]; exact ho⟩, fun _ => rfl, E149_f hS hR hG hq ?_ (posR (x, R) G) 0 (by omega)⟩
      by_cases hlt : posR (x, R) G < G.length
      · have hn : ¬ w_i w 26 4 ≤ Int32.ofNat (posR (x, R) G) := fun q => absurd ((RM_le hR (by omega)).mp q) (by omega)
        have ec := E150 (d := d) hS hR hG hq hlt
        have hge : ¬ pkN G[posR (x, R) G] < pkN (x, R) := posR_ge _ G _ (List.getElem?_eq_getElem hlt)
        have hne2 : G[posR (x, R) G] ≠ (x, R) := fun q => hm (by rw [← q]; exact List.getElem_mem hlt)
        have e1 : cmpR G[posR (x, R) G] (x, R) = 1 := by unfold cmpR; rw [if_neg hge, if_neg hne2]
        rw [e1] at ec
        exact sg_149_25 (d := d + 1) hS _ _ ⟨fun q => absurd q hn, fun _ => ⟨1, ec, fun _ => ⟨fun q => absurd q hn, fun _ => ⟨1, ec, fun _ => ⟨fun _ => g1, fun q => absurd q hne⟩, fun q => absurd q (by decide)⟩⟩, fun q => absurd (by decide) q⟩⟩
      · have hy : w_i w 26 4 ≤ Int32.ofNat (posR (x, R) G) := (RM_le hR (by omega)).mpr (by omega)
        exact sg_149_25 (d := d + 1) hS _ _ ⟨fun _ => ⟨fun _ => ⟨fun _ => g1, fun q => absurd q hne⟩, fun q => absurd hy q⟩, fun q => absurd hy q⟩
    · have e : addA (false, G) (some (x, R)) = (true, G) := by simp [addA, putR, hm, hl]
      have heq : w_i w 26 4 = 60 := hcnt.mpr (by omega)
      rw [e]
      refine ⟨w_si w 26 14 1, -1, sh_si hS ly_26 (k := 14) rfl _, Fr_si (by decide) _, ⟨RM_congr hR (w_i_ne (by decide)) w_a_si w_a_si w_a_si, hs, w_i_same hS ly_26 rfl⟩, fun q => (by cases q), E149_f hS hR hG hq ?_ (posR (x, R) G) 0 (by omega)⟩
      by_cases hlt : posR (x, R) G < G.length
      · have hn : ¬ w_i w 26 4 ≤ Int32.ofNat (posR (x, R) G) := fun q => absurd ((RM_le hR (by omega)).mp q) (by omega)
        have ec := E150 (d := d) hS hR hG hq hlt
        have hge : ¬ pkN G[posR (x, R) G] < pkN (x, R) := posR_ge _ G _ (List.getElem?_eq_getElem hlt)
        have hne2 : G[posR (x, R) G] ≠ (x, R) := fun q => hm (by rw [← q]; exact List.getElem_mem hlt)
        have e1 : cmpR G[posR (x, R) G] (x, R) = 1 := by unfold cmpR; rw [if_neg hge, if_neg hne2]
        rw [e1] at ec
        exact sg_149_25 (d := d + 1) hS _ _ ⟨fun q => absurd q hn, fun _ => ⟨1, ec, fun _ => ⟨fun q => absurd q hn, fun _ => ⟨1, ec, fun _ => ⟨fun q => absurd heq q, fun _ => ⟨rfl, rfl⟩⟩, fun q => absurd q (by decide)⟩⟩, fun q => absurd (by decide) q⟩⟩
      · have hy : w_i w 26 4 ≤ Int32.ofNat (posR (x, R) G) := (RM_le hR (by omega)).mpr (by omega)
        exact sg_149_25 (d := d + 1) hS _ _ ⟨fun _ => ⟨fun _ => ⟨fun q => absurd heq q, fun _ => ⟨rfl, rfl⟩⟩, fun q => absurd hy q⟩, fun q => absurd hy q⟩
/-- add -/
theorem E149 (hS : gk_Sh rr w) {p : Bool × List Rl} (hM : MA w p) (hG : RG w R) {x : Nat} (hx : x < 16) : ∃ (w' : gk_Wd) (v : Int32), gk_E (d + 2) 149 [.ref 27, .int (Int32.ofNat x)] w (.inl (some (.int v))) w' ∧ gk_Sh rr w' ∧ Fr [28, 29, 30] [(26, 4), (26, 14)] w w' ∧ MA w' (addA p (mkR x R)) ∧ ((addA p (mkR x R)).1 = false → v = Int32.ofNat (posR (x, R) p.2)) := by
  obtain ⟨ob, G⟩ := p
  have h24 := hG.2.1
  have hle : w_i w 26 12 ≤ 10 ↔ R.length ≤ 10 := by rw [hG.1]; exact i_le (b := 10) (by omega) (by omega)
  by_cases h10 : R.length ≤ 10
  · have hq : okR (x, R) := ⟨hx, h10, hG.2.2.1⟩
    have em : mkR x R = some (x, R) := by unfold mkR; rw [if_pos h10]
    rw [em]
    cases ob with
    | true =>
      have ho : ¬ w_i w 26 14 = 0 := by
        rw [hM.2.2]; exact (by decide : ¬ bI true = 0)
      exact ⟨w, -1, gk_E_i rfl rfl (sg_149_0 (d := d + 1) hS _ ⟨fun _ => ⟨fun q => absurd q ho, fun _ => ⟨rfl, rfl⟩⟩, fun q => absurd (hle.mpr h10) q⟩), hS, Fr_refl, hM, fun q => by cases q⟩
    | false =>
      obtain ⟨w1, v, s1, f1, M1, hv, g1⟩ := E149_p (d := d) hS hM.1 hM.2.1 hG hq hM.2.2
      exact ⟨w1, v, gk_E_i rfl rfl (sg_149_0 (d := d + 1) hS _ ⟨fun _ => ⟨fun _ => g1, fun q => absurd hM.2.2 q⟩, fun q => absurd (hle.mpr h10) q⟩), s1, f1, M1, hv⟩
  · have em : mkR x R = none := by unfold mkR; rw [if_neg h10]
    have ea : addA (ob, G) none = (true, G) := by cases ob <;> simp [addA, putR]
    rw [em, ea]
    have e1 : w_i (w_si w 26 14 1) 26 14 = 1 := w_i_same hS ly_26 rfl
    exact ⟨w_si w 26 14 1, -1, gk_E_i rfl rfl (sg_149_0 (d := d + 1) hS _ ⟨fun q => absurd (hle.mp q) h10, fun _ => ⟨fun q => by rw [e1] at q; exact absurd q (by decide), fun _ => ⟨rfl, rfl⟩⟩⟩), sh_si hS ly_26 (k := 14) rfl _, Fr_si (by decide) _, ⟨RM_congr hM.1 (w_i_ne (by decide)) w_a_si w_a_si w_a_si, hM.2.1, e1⟩, fun q => by cases q⟩
/-- symbols left out of a right side by bits; none: one may not -/
def lvO (N : Nat → Bool) (x : Int32) : Nat → List Nat → Option (List Nat)
  | _, [] => some []
  | k, s :: t => if bt x k = true then (if s < 16 ∧ N s = true then lvO N x (k + 1) t else none) else (lvO N x (k + 1) t).map (fun u => s :: u)
def nlM (w : gk_Wd) (v : Nat) : Bool := !decide ((w_a w 38).getD v 0 = 0)
theorem RG_push (hS : gk_Sh rr w) (hG : RG w R) (hl : R.length < 24) {s : Nat} (hs : s < 22) : RG (w_si (w_sa w 34 ((w_a w 34).set R.length (Int32.ofNat s))) 26 12 (Int32.ofNat (R.length + 1))) (R ++ [s]) := by
  have hl34 := (w_int hS ly_34).2
  have s1 := sh_as hS ly_34 R.length (Int32.ofNat s)
  refine ⟨by rw [w_i_same s1 ly_26 rfl]; simp, by simp; omega, fun y hy => ?_, fun k y hk => ?_⟩
  · rcases List.mem_append.mp hy with h | h
    · exact hG.2.2.1 y h
    · rw [List.mem_singleton.mp h]; exact hs
  · rw [w_a_si, w_a_same hS ly_34, getD_set32 _ (by omega)]
    by_cases h1 : k < R.length
    · rw [if_neg (by omega)]
      rw [List.getElem?_append_left h1] at hk
      exact hG.2.2.2 k y hk
    · have h2 := (List.getElem?_eq_some_iff.mp hk).1
      simp at h2
      obtain rfl : k = R.length := by omega
      rw [if_pos rfl]
      rw [List.getElem?_append_right (Nat.le_refl _), Nat.sub_self] at hk
      rw [← Option.some.inj hk]
theorem E171_l {H : List Rl} {i : Nat} (hi : i < H.length) (x : Int32) {N : Nat → Bool} : ∀ (m k : Nat) (w : gk_Wd) (R : List Nat), gk_Sh rr w → RM w 8 31 H → nlM w = N → RG w R → R.length ≤ k → k + m = H[i].2.length → ∃ w1, gk_Sh rr w1 ∧ Fr [34] [(26, 12)] w w1 ∧ (∀ t, lvO N x k (H[i].2.drop k) = some t → RG w1 (R ++ t)) ∧ gk_W none (d + 1) 171 7 [some (.ref 27), some (.int (Int32.ofNat i)), some (.int x), some (.int (Int32.ofNat k)), none, none, none] [] w (.inl (some (.int (bI (lvO N x k (H[i].2.drop k)).isSome)))) w1
  | 0, k, w, R, hS, hH, hN, hG, hRk, hk => by
    have h10 := (RM_ok hH hi).2.1
    rw [List.drop_eq_nil_of_le (by omega)]
    refine ⟨w, hS, Fr_refl, fun t ht => ?_, sg_171_7 hS _ _ _ ⟨RM_out hH hi, fun _ => ⟨rfl, rfl⟩, fun q => absurd ((RM_sz hH hi (by omega)).mpr (by omega)) q⟩⟩
    simp only [lvO, Option.some.injEq] at ht
    rw [← ht, List.append_nil]; exact hG
  | m + 1, k, w, R, hS, hH, hN, hG, hRk, hk => by
    have h60 := RM_60 hH
    have h10 := (RM_ok hH hi).2.1
    have hkl : k < H[i].2.length := by omega
    have hs := (RM_ok hH hi).2.2 _ (List.getElem_mem hkl)
    have es : (w_a w 33).getD (10 * Int32.ofNat i + Int32.ofNat k).toNatClampNeg 0 = Int32.ofNat H[i].2[k] := RM_sym hH hi hkl
    have hnz : ¬ (w_a w 32).getD (Int32.ofNat i).toNatClampNeg 0 ≤ Int32.ofNat k := fun q => absurd ((RM_sz hH hi (by omega)).mp q) (by omega)
    have hb := bt_is1 x (v := k) (by omega)
    have h12 := hG.1
    have o12 : gk_out (w_i w 26 12) 24 = false := by rw [h12]; exact o_ok (by omega) (by omega)
    rw [List.drop_eq_getElem_cons hkl]
    simp only [lvO]
    by_cases hx : bt x k = true
    · have hx1 := hb.mpr hx
      rw [if_pos hx]
      by_cases hv : H[i].2[k] < 16 ∧ N H[i].2[k] = true
      · rw [if_pos hv]
        obtain ⟨w1, s1, f1, a1, g1⟩ := E171_l hi x m (k + 1) w R hS hH hN hG (by omega) (by omega)
        refine ⟨w1, s1, f1, a1, sg_171_7 hS _ _ _ ⟨RM_out hH hi, fun q => absurd q hnz, fun _ => ⟨RM_io hH hi (by omega), fun q => ?_, fun _ => ⟨by rw [es]; exact o_ok hv.1 (by omega), fun q => ?_, fun _ => ⟨fun q => absurd hx1 q, fun _ => by rw [i_s]; exact g1⟩⟩⟩⟩⟩
        · rw [es, f_163_n (by omega)] at q; omega
        · rw [es, i_nat (by omega)] at q
          have := hv.2
          rw [← hN] at this
          simp only [nlM] at this
          rw [q] at this
          exact absurd this (by decide)
      · rw [if_neg hv]
        refine ⟨w, hS, Fr_refl, fun t ht => (by cases ht), sg_171_7 hS _ _ _ ⟨RM_out hH hi, fun q => absurd q hnz, fun _ => ⟨RM_io hH hi (by omega), fun _ => ⟨fun q => absurd hx1 q, fun _ => ⟨rfl, rfl⟩⟩, fun q => ?_⟩⟩⟩
        rw [es, f_163_n (by omega)] at q
        have h16 : H[i].2[k] < 16 := by omega
        refine ⟨by rw [es]; exact o_ok h16 (by omega), fun _ => ⟨fun q => absurd hx1 q, fun _ => ⟨rfl, rfl⟩⟩, fun q2 => ?_⟩
        rw [es, i_nat (by omega)] at q2
        exact absurd ⟨h16, by rw [← hN]; simp only [nlM]; rw [decide_eq_false q2]; rfl⟩ hv
    · have hx1 : ¬ ((x >>> (Int32.ofNat k &&& 31)) &&& 1) = 1 := fun q => hx (hb.mp q)
      rw [if_neg hx]
      have s1 := sh_si (sh_as hS ly_34 R.length (Int32.ofNat H[i].2[k])) ly_26 (k := 12) rfl (Int32.ofNat (R.length + 1))
      have G1 := RG_push hS hG (by omega) hs
      have H1 : RM (w_si (w_sa w 34 ((w_a w 34).set R.length (Int32.ofNat H[i].2[k]))) 26 12 (Int32.ofNat (R.length + 1))) 8 31 H := RM_congr hH (by rw [w_i_ne (by decide), w_i_sa]) (by rw [w_a_si, w_a_ne (by decide)]) (by rw [w_a_si, w_a_ne (by decide)]) (by rw [w_a_si, w_a_ne (by decide)])
      have N1 : nlM (w_si (w_sa w 34 ((w_a w 34).set R.length (Int32.ofNat H[i].2[k]))) 26 12 (Int32.ofNat (R.length + 1))) = N := by
        rw [← hN]
        funext v
        simp only [nlM]
        rw [w_a_si, w_a_ne (by decide)]
      obtain ⟨w1, s2, f1, a1, g1⟩ := E171_l hi x m (k + 1) _ (R ++ [H[i].2[k]]) s1 H1 N1 G1 (by simp; omega) (by omega)
      have ew : w_si (w_sa w 34 ((w_a w 34).set (w_i w 26 12).toNatClampNeg ((w_a w 33).getD (10 * Int32.ofNat i + Int32.ofNat k).toNatClampNeg 0))) 26 12 (w_i (w_sa w 34 ((w_a w 34).set (w_i w 26 12).toNatClampNeg ((w_a w 33).getD (10 * Int32.ofNat i + Int32.ofNat k).toNatClampNeg 0))) 26 12 + 1) = w_si (w_sa w 34 ((w_a w 34).set R.length (Int32.ofNat H[i].2[k]))) 26 12 (Int32.ofNat (R.length + 1)) := by
        rw [w_i_sa, h12, i_nat (by omega), es, i_s]
      refine ⟨w1, s2, Fr_trans (Fr_sa (by decide) _) (Fr_trans (Fr_si (by decide) _) f1), fun t ht => ?_, ?_⟩
      · obtain ⟨u, hu, rfl⟩ := Option.map_eq_some_iff.mp ht
        have := a1 u hu
        rwa [List.append_assoc] at this
      · rw [Option.isSome_map]
        refine sg_171_7 hS _ _ _ ⟨RM_out hH hi, fun q => absurd q hnz, fun _ => ⟨RM_io hH hi (by omega), fun _ => ⟨fun _ => ⟨o12, ?_⟩, fun q => absurd q hx1⟩, fun q => ⟨?_, fun _ => ⟨fun _ => ⟨o12, ?_⟩, fun q => absurd q hx1⟩, fun _ => ⟨fun _ => ⟨o12, ?_⟩, fun q => absurd q hx1⟩⟩⟩⟩
        · rw [ew, i_s]; exact g1
        · rw [es, f_163_n (by omega)] at q
          rw [es]; exact o_ok (by omega) (by omega)
        · rw [ew, i_s]; exact g1
        · rw [ew, i_s]; exact g1
/-- leaveOut -/
theorem E171 (hS : gk_Sh rr w) {H : List Rl} (hH : RM w 8 31 H) {i : Nat} (hi : i < H.length) (x : Int32) : ∃ w', gk_E (d + 1) 171 [.ref 27, .int (Int32.ofNat i), .int x] w (.inl (some (.int (bI (lvO (nlM w) x 0 H[i].2).isSome)))) w' ∧ gk_Sh rr w' ∧ Fr [34] [(26, 12)] w w' ∧ ∀ t, lvO (nlM w) x 0 H[i].2 = some t → RG w' t := by
  have s1 := sh_si hS ly_26 (k := 12) rfl 0
  obtain ⟨w1, s2, f1, a1, g1⟩ := E171_l (d := d) hi x (N := nlM w) H[i].2.length 0 _ [] s1 (RM_congr hH (w_i_ne (by decide)) w_a_si w_a_si w_a_si) (by funext v; simp only [nlM]; rw [w_a_si]) ⟨w_i_same hS ly_26 rfl, by simp, by simp, by simp⟩ (by simp) (by omega)
  exact ⟨w1, gk_E_i rfl rfl (sg_171_0 hS _ _ g1), s2, Fr_trans (Fr_si (by decide) _) f1, fun t ht => a1 t ht⟩
theorem lvO_0 (N : Nat → Bool) : ∀ (s : List Nat) (k : Nat), lvO N 0 k s = some s
  | [], _ => rfl
  | x :: s, k => by
    simp only [lvO]
    rw [if_neg (by rw [bt_zero]; decide), lvO_0 N s (k + 1)]; rfl
/-- leaveOut(r, 0) -/
theorem E171_0 (hS : gk_Sh rr w) {H : List Rl} (hH : RM w 8 31 H) {i : Nat} (hi : i < H.length) : ∃ w', gk_E (d + 1) 171 [.ref 27, .int (Int32.ofNat i), .int 0] w (.inl (some (.int 1))) w' ∧ gk_Sh rr w' ∧ Fr [34] [(26, 12)] w w' ∧ RG w' H[i].2 := by
  obtain ⟨w1, e1, s1, f1, a1⟩ := E171 (d := d) hS hH hi 0
  rw [lvO_0] at e1 a1
  exact ⟨w1, e1, s1, f1, a1 _ rfl⟩
end PU
