/-! part 68: search of the class -/
/-- the variables not yet replaced -/
def PK (w : gk_Wd) (c f q : Nat) (rv : List Nat) : Prop := w_i w c f = Int32.ofNat rv.length ∧ rv.length ≤ 20 ∧ (∀ x ∈ rv, x < 16) ∧ ∀ i s, rv[i]? = some s → (w_a w q).getD i 0 = Int32.ofNat s
section CD
variable {d : Nat} {rr : List gk_S} {w : gk_Wd} {wd : List Nat} {E : Nat → Nat → Int32} {G : List Rl}
theorem PK_congr {w' : gk_Wd} {c f q : Nat} {rv : List Nat} (h : PK w c f q rv) (h1 : w_i w' c f = w_i w c f) (h2 : w_a w' q = w_a w q) : PK w' c f q rv := ⟨by rw [h1]; exact h.1, h.2.1, h.2.2.1, by rw [h2]; exact h.2.2.2⟩
theorem PK_push {c f q ci n t : Nat} {ks : List Nat} {rv : List Nat} (hS : gk_Sh rr w) (hc : gp_lay[c]? = some (.inl (ci, ks))) (hf : ks[f]? = some 0) (hq : gp_lay[q]? = some (.inr (.inl (t, n)))) (hn : 20 ≤ n) (h : PK w c f q rv) (hl : rv.length < 20) {x : Nat} (hx : x < 16) : PK (w_si (w_sa w q ((w_a w q).set rv.length (Int32.ofNat x))) c f (Int32.ofNat (rv.length + 1))) c f q (rv ++ [x]) := by
  have hlq := (w_int hS hq).2
  have s1 := sh_as hS hq rv.length (Int32.ofNat x)
  refine ⟨by rw [w_i_same s1 hc hf]; simp, by simp; omega, fun y hy => ?_, fun i s hi => ?_⟩
  · rcases List.mem_append.mp hy with hy | hy
    · exact h.2.2.1 y hy
    · rw [List.mem_singleton.mp hy]; exact hx
  · rw [w_a_si, w_a_same hS hq, getD_set32 _ (by omega)]
    by_cases e : i = rv.length
    · subst e
      rw [if_pos rfl]
      rw [List.getElem?_append_right (Nat.le_refl _), Nat.sub_self] at hi
      rw [← Option.some.inj hi]
    · rw [if_neg e]
      have h2 := (List.getElem?_eq_some_iff.mp hi).1
      simp at h2
      rw [List.getElem?_append_left (by omega)] at hi
      exact h.2.2.2 i s hi
/-- replaceTop -/
theorem E139 (hS : gk_Sh rr w) {rv : List Nat} {v : Nat} (hP : PK w 19 8 25 (rv ++ [v])) {r : Rl} (hr : okR r) (h0 : 0 < r.2.length) (hv : ∀ x ∈ r.2.drop 1, x < 16) (hl : rv.length + (r.2.length - 1) ≤ 20) : ∃ w', gk_E (d + 1) 139 [.ref 20, .long (pk r)] w (.inl none) w' ∧ gk_Sh rr w' ∧ Fr [25] [(19, 8)] w w' ∧ PK w' 19 8 25 (rv ++ (r.2.drop 1).reverse) := by
  have h10 := hr.2.1
  have s0 := sh_si hS ly_19 (k := 8) rfl (w_i w 19 8 - 1)
  have e8 : w_i w 19 8 - 1 = Int32.ofNat rv.length := by
    rw [hP.1, List.length_append, List.length_singleton, i_down]
  have P0 : PK (w_si w 19 8 (w_i w 19 8 - 1)) 19 8 25 rv := ⟨by rw [w_i_same hS ly_19 rfl, e8], by omega, fun x hx => hP.2.2.1 x (List.mem_append.mpr (Or.inl hx)), fun i s hi => by
    rw [w_a_si]
    exact hP.2.2.2 i s (by rw [List.getElem?_append_left (List.getElem?_eq_some_iff.mp hi).1]; exact hi)⟩
  have f0 : Fr [25] [(19, 8)] w (w_si w 19 8 (w_i w 19 8 - 1)) := Fr_si (by decide) _
  obtain ⟨-, w1, ⟨hk, s1, f1, P1⟩, g1⟩ := dn_loop (α := Unit) (d := d + 1) (mi := 139) (pc := 15) (fun j _ => [some (.ref 20), some (.long (pk r)), none, some (.int (Int32.ofNat (j + 1)))])
    (fun j _ w1 => j + 1 ≤ r.2.length ∧ gk_Sh rr w1 ∧ Fr [25] [(19, 8)] w w1 ∧ PK w1 19 8 25 (rv ++ (r.2.drop (j + 1)).reverse))
    (fun j _ w1 hI => by
      obtain ⟨hj, s1, f1, P1⟩ := hI
      have hjl : j + 1 < r.2.length := by omega
      have hlen : (rv ++ (r.2.drop (j + 1 + 1)).reverse).length = rv.length + (r.2.length - (j + 2)) := by simp
      have hx : r.2[j + 1] < 16 := hv _ (by
        rw [List.mem_iff_getElem]
        exact ⟨j, by simp; omega, by rw [List.getElem_drop]; congr 1; omega⟩)
      have ed : r.2.drop (j + 1) = r.2[j + 1] :: r.2.drop (j + 1 + 1) := List.drop_eq_getElem_cons hjl
      have P2 := PK_push s1 ly_19 rfl ly_25 (by omega) P1 (by omega) hx
      have n2 : ¬ Int32.ofNat (j + 1 + 1) < 2 := fun q => absurd ((i_lt (b := 2) (by omega) (by omega)).mp q) (by omega)
      have n20 : ¬ (20 : Int32) ≤ w_i w1 19 8 := by
        rw [P1.1]; intro q
        exact absurd ((i_le (a := 20) (by omega) (by omega)).mp q) (by omega)
      refine ⟨(), _, ⟨by omega, sh_si (sh_as s1 ly_25 (rv ++ (r.2.drop (j + 1 + 1)).reverse).length (Int32.ofNat r.2[j + 1])) ly_19 (k := 8) rfl (Int32.ofNat ((rv ++ (r.2.drop (j + 1 + 1)).reverse).length + 1)), Fr_trans f1 (Fr_trans (Fr_sa (by decide) _) (Fr_si (by decide) _)), ?_⟩, fun x w' h => sg_139_15 s1 _ _ ⟨fun q => absurd q n2, fun _ => ⟨fun q => absurd q n20, fun _ => ⟨by rw [P1.1]; exact o_ok (by omega) (by omega), ?_⟩⟩⟩⟩
      · rw [ed, List.reverse_cons, ← List.append_assoc]; exact P2
      · rw [w_i_sa, P1.1, i_nat (by omega), f_26_pk hr hjl, i_s, i_m1, i_down]; exact h) (r.2.length - 1) () _ ⟨by omega, s0, f0, by
      rw [List.drop_eq_nil_of_le (by omega)]; simpa using P0⟩
  refine ⟨w1, gk_E_i rfl rfl (sg_139_0 hS _ ?_), s1, f1, P1⟩
  rw [f_24_pk hr, show r.2.length = r.2.length - 1 + 1 by omega]
  exact g1 _ _ (sg_139_15 s1 _ _ ⟨fun _ => ⟨rfl, rfl⟩, fun q => absurd (by decide) q⟩)
theorem getLastD_app (rv : List Nat) (v : Nat) : (rv ++ [v]).getLastD 0 = v := by simp [List.getLastD_eq_getLast?]
/-- leastFitting -/
theorem E138 (hS : gk_Sh rr w) (hR : RS w 3 G) (hW : WC w wd) (hE : TE w 21 E) {rv : List Nat} {v : Nat} (hP : PK w 19 8 25 (rv ++ [v])) {p : Nat} : gk_E (d + 3) 138 [.ref 20, .ref 4, .int (Int32.ofNat p)] w (.inl (some (.int (oI (chn wd E G (rv ++ [v]) p))))) w := by
  have h60 := RS_60 hR
  have hl20 := hP.2.1
  have hlen : (rv ++ [v]).length = rv.length + 1 := by simp
  have hv16 : v < 16 := hP.2.2.1 v (by simp)
  have e1 : w_i w 19 8 - 1 = Int32.ofNat rv.length := by rw [hP.1, hlen, i_down]
  have e2 : w_i w 19 8 - 2 = Int32.ofNat rv.length - 1 := by
    rw [hP.1, hlen]
    by_cases h : rv.length = 0
    · rw [h]; decide
    · rw [show (2 : Int32) = Int32.ofNat 2 from rfl, i_sub (by omega), show (1 : Int32) = Int32.ofNat 1 from rfl, i_sub (by omega)]
      congr 1
  have etop : (w_a w 25).getD (w_i w 19 8 - 1).toNatClampNeg 0 = Int32.ofNat v := by
    rw [e1, i_nat (by omega)]
    exact hP.2.2.2 rv.length v (by rw [List.getElem?_append_right (Nat.le_refl _), Nat.sub_self]; rfl)
  have ec : chn wd E G (rv ++ [v]) p = fstI (fitB wd E v rv p) G := by
    unfold chn
    rw [getLastD_app, List.dropLast_concat]
  rw [ec]
  have hbel : ∀ (x3 : Int32) (X : Int32), Go (d + 3) 138 63 [some (.ref 20), some (.ref (3 + 1)), some (.int (Int32.ofNat p)), some (.int x3), some (.int X), some (.int (Int32.ofNat rv.length - 1))] w 63 [some (.ref 20), some (.ref (3 + 1)), some (.int (Int32.ofNat p)), some (.int x3), some (.int (row wd E rv.reverse X)), some (.int (Int32.ofNat 0 - 1))] w := by
    intro x3 X
    obtain ⟨Y, w1, ⟨hk, rfl, hY⟩, g1⟩ := dn_loop (α := Int32) (d := d + 3) (mi := 138) (pc := 63) (fun k Y => [some (.ref 20), some (.ref (3 + 1)), some (.int (Int32.ofNat p)), some (.int x3), some (.int Y), some (.int (Int32.ofNat k - 1))])
      (fun k Y w1 => k ≤ rv.length ∧ w1 = w ∧ row wd E (rv.take k).reverse Y = row wd E rv.reverse X)
      (fun k Y w1 hI => by
        obtain ⟨hk, rfl, hY⟩ := hI
        have hkl : k < rv.length := by omega
        have hk16 : rv[k] < 16 := hP.2.2.1 _ (List.mem_append.mpr (Or.inl (List.getElem_mem hkl)))
        have eg : (w_a w1 25).getD (Int32.ofNat k).toNatClampNeg 0 = Int32.ofNat rv[k] := by
          rw [i_nat (by omega)]
          exact hP.2.2.2 k _ (by rw [List.getElem?_append_left hkl, List.getElem?_eq_getElem hkl])
        rw [List.take_succ_eq_append_getElem hkl, List.reverse_append, List.reverse_singleton, List.singleton_append, row_cons] at hY
        refine ⟨rc wd E rv[k] Y, w1, ⟨by omega, rfl, hY⟩, fun r w' h => ?_⟩
        rw [i_down]
        refine sg_138_63 (d := d + 2) hS rs_3 _ _ _ _ ⟨fun q => absurd q (i_neg (by omega)), fun _ => ⟨o_ok (by omega) (by omega), _, by rw [eg]; exact E76 (d := d + 1) hS hW hE (by omega) Y, by rw [i_m1]; exact h⟩⟩) rv.length X w ⟨Nat.le_refl _, rfl, by rw [List.take_of_length_le (Nat.le_refl _)]⟩
    have hY2 : Y = row wd E rv.reverse X := by simpa [row] using hY
    rw [← hY2]; exact g1
  have := scan (d := d + 3) (mi := 138) (pc := 11) (w := w) (fitB wd E v rv p) G (fun k => [some (.ref 20), some (.ref (3 + 1)), some (.int (Int32.ofNat p)), some (.int k), none, none]) (fun k => Int32.ofNat k) (-1) (fun k hk r w' h1 h2 => by
    have ef := RS_f23 hR hk
    have hok := RS_ok hR hk
    have h16 := hok.1
    have hle : ¬ f_13 w 3 ≤ Int32.ofNat k := fun q => absurd ((RS_le hR (by omega)).mp q) (by omega)
    refine sg_138_11 (d := d + 2) hS rs_3 _ _ ⟨fun q => absurd q hle, fun _ => ⟨RS_out hR hk, by rw [e1]; exact o_ok (by omega) (by omega), fun q => ?_, fun q => ⟨RS_out hR hk, _, by rw [ef]; exact E75 (d := d) hS hW hE hok (bp p), ?_⟩⟩⟩
    · rw [etop, ef, f_25_pk hok, i_eq (by omega) (by omega)] at q
      rw [i_s]; exact h1 (by unfold fitB; rw [decide_eq_false q]; rfl)
    · rw [etop, ef, f_25_pk hok, i_eq (by omega) (by omega)] at q
      rw [e2]
      have ef79 := f_79_W hW (row wd E rv.reverse (row wd E G[k].2 (bp p)))
      have hfit : fitB wd E v rv p G[k] = bt (row wd E rv.reverse (row wd E G[k].2 (bp p))) wd.length := by
        unfold fitB; rw [decide_eq_true q]; rfl
      refine hbel _ _ r w' (sg_138_63 (d := d + 2) hS rs_3 _ _ _ _ ⟨fun _ => ⟨fun q2 => ?_, fun q2 => ?_⟩, fun q2 => absurd i_z1 q2⟩)
      · rw [ef79, bI_0] at q2
        rw [i_s]; exact h1 (by rw [hfit]; exact q2)
      · rw [ef79, bI_0] at q2
        exact h2 (by rw [hfit]; simpa using q2)) (sg_138_11 (d := d + 2) hS rs_3 _ _ ⟨fun _ => ⟨rfl, rfl⟩, fun q => absurd ((RS_le hR (by omega)).mpr (Nat.le_refl _)) q⟩) G.length 0 (by omega) rfl
  have e : hitV (fun k => Int32.ofNat k) (-1) (fstI (fitB wd E v rv p) G) = oI (fstI (fitB wd E v rv p) G) := by cases fstI (fitB wd E v rv p) G <;> rfl
  rw [e] at this
  refine gk_E_i rfl rfl (sg_138_0 (d := d + 2) hS rs_3 _ ⟨fun _ => this, fun q => ?_⟩)
  rw [hP.1, hlen] at q
  exact absurd ((i_eq (b := 0) (by omega) (by omega)).mp q) (by omega)
/-- search -/
theorem E137 (hS : gk_Sh rr w) (hR : RS w 3 G) (hW : WC w wd) (hG : ∀ r ∈ G, gbB r = true) : ∃ (E : Nat → Nat → Int32) (w' : gk_Wd), isE wd G E ∧ gk_E (d + 5) 137 [.ref 20, .ref 4] w (.inl (some (.int (bI (bt (E 0 0) wd.length))))) w' ∧ gk_Sh rr w' ∧ Fr [21, 24, 25] [(19, 6), (19, 8)] w w' ∧ (bt (E 0 0) wd.length = false → w_i w' 19 6 = 0) ∧ (bt (E 0 0) wd.length = true → w_i w' 19 6 = Int32.ofNat wd.length ∧ ∀ k, k < wd.length → (w_a w' 24).getD k 0 = Int32.ofNat (stp wd E G k)) := by
  have hL := hW.2.1
  have h60 := RS_60 hR
  have s1 := sh_si hS ly_19 (k := 6) rfl 0
  have e15 : gk_E (d + 4) 15 [.ref 20] w (.inl none) (w_si w 19 6 0) := gk_E_i rfl rfl (sg_15_0 hS ⟨rfl, rfl⟩)
  have f1 : Fr [21, 24, 25] [(19, 6), (19, 8)] w (w_si w 19 6 0) := Fr_si (by decide) _
  have z1 : w_i (w_si w 19 6 0) 19 6 = 0 := w_i_same hS ly_19 rfl
  generalize hw1 : w_si w 19 6 0 = w1 at s1 e15 f1 z1
  obtain ⟨E, w2, hE, hb, e73, s2, f2, T2⟩ := E73 (d := d) s1 (RS_Fr hR f1 (by decide) (by decide)) (WC_Fr hW f1 (by decide) (by decide))
  have f12 : Fr [21, 24, 25] [(19, 6), (19, 8)] w w2 := Fr_trans f1 (Fr_mono f2 (by simp) (by simp))
  cases hbt : bt (E 0 0) wd.length with
  | false =>
    rw [hbt] at e73
    refine ⟨E, w2, hE, ?_, s2, f12, fun _ => by rw [Fr_i f2 (by simp), z1], fun q => by rw [hbt] at q; cases q⟩
    rw [hbt]
    exact gk_E_i rfl rfl (sg_137_0 (d := d + 4) hS rs_3 ⟨w1, e15, s1, _, w2, e73, s2, fun q => absurd rfl q, fun _ => ⟨rfl, rfl⟩⟩)
  | true =>
    rw [hbt] at e73
    have hinv := rvs_inv hE hb hL hG hbt
    have R2 : RS w2 3 G := RS_Fr hR f12 (by decide) (by decide)
    have W2 := WC_Fr hW f12 (by decide) (by decide)
    have s3 := sh_si (sh_as s2 ly_25 0 0) ly_19 (k := 8) rfl 1
    have l25 := (w_int s2 ly_25).2
    have f3 : Fr [24, 25] [(19, 6), (19, 8)] w2 (w_si (w_sa w2 25 ((w_a w2 25).set 0 0)) 19 8 1) := Fr_trans (Fr_sa (by decide) _) (Fr_si (by decide) _)
    have P3 : PK (w_si (w_sa w2 25 ((w_a w2 25).set 0 0)) 19 8 1) 19 8 25 (rvs wd E G 0) := ⟨by rw [w_i_same (sh_as s2 ly_25 0 0) ly_19 rfl]; rfl, by simp [rvs], fun x hx => by rw [List.mem_singleton.mp hx]; omega, fun i s hi => by
      have hi2 : [0][i]? = some s := hi
      have h3 := (List.getElem?_eq_some_iff.mp hi2).1
      simp at h3
      subst h3
      simp at hi2
      rw [w_a_si, w_a_same s2 ly_25, getD_set32 _ (by omega), if_pos rfl, ← hi2]; rfl⟩
    generalize hw3 : w_si (w_sa w2 25 ((w_a w2 25).set 0 0)) 19 8 1 = w3 at s3 f3 P3
    obtain ⟨-, w4, ⟨s4, f4, P4, S4⟩, g4⟩ := up_loop (α := Unit) (d := d + 5) (mi := 137) (pc := 28) wd.length (fun k _ => [some (.ref 20), some (.ref (3 + 1)), some (.int (Int32.ofNat k)), none])
      (fun n _ w4 => gk_Sh rr w4 ∧ Fr [24, 25] [(19, 6), (19, 8)] w2 w4 ∧ PK w4 19 8 25 (rvs wd E G n) ∧ ∀ k, k < n → (w_a w4 24).getD k 0 = Int32.ofNat (stp wd E G k))
      (fun n _ w4 hn hI => by
        obtain ⟨s4, f4, P4, S4⟩ := hI
        obtain ⟨i1, i2, i3, i4⟩ := hinv n (by omega)
        obtain ⟨hne, i, hi⟩ := i4 hn
        obtain ⟨hil, hfit⟩ := fstI_some hi
        have R4 : RS w4 3 G := RS_Fr R2 f4 (by decide) (by decide)
        have W4 := WC_Fr W2 f4 (by decide) (by decide)
        have T4 : TE w4 21 E := TE_congr T2 (Fr_a f4 (by decide))
        have er : rvs wd E G n = (rvs wd E G n).dropLast ++ [(rvs wd E G n).getLast hne] := (List.dropLast_concat_getLast hne).symm
        have P4' := P4
        rw [er] at P4'
        have e138 := E138 (d := d + 1) s4 R4 W4 T4 P4' (p := n)
        rw [← er, hi] at e138
        have hle : ¬ w_i w4 19 1 ≤ Int32.ofNat n := by
          rw [W4.1]; intro q
          exact absurd ((i_le (by omega) (by omega)).mp q) (by omega)
        have l24 := (w_int s4 ly_24).2
        have s5 := sh_as s4 ly_24 n (Int32.ofNat i)
        have f5 : Fr [24, 25] [(19, 6), (19, 8)] w4 (w_sa w4 24 ((w_a w4 24).set n (Int32.ofNat i))) := Fr_sa (by decide) _
        have hok := RS_ok R4 hil
        obtain ⟨a, vs, ev, ha, hvs⟩ := gbB_eq (hG _ (List.getElem_mem hil))
        have ed : G[i].2.drop 1 = vs := by rw [ev]; rfl
        have hl2 : G[i].2.length = vs.length + 1 := by rw [ev]; rfl
        obtain ⟨j1, j2, j3, j4⟩ := hinv (n + 1) (by omega)
        have ers : rvs wd E G (n + 1) = (rvs wd E G n).dropLast ++ (G[i].2.drop 1).reverse := by
          simp only [rvs, hi, Option.getD_some]
          rw [getD_R hil]
        have P5 : PK (w_sa w4 24 ((w_a w4 24).set n (Int32.ofNat i))) 19 8 25 ((rvs wd E G n).dropLast ++ [(rvs wd E G n).getLast hne]) := PK_congr P4' w_i_sa (w_a_ne (by decide))
        have hlen : (rvs wd E G n).dropLast.length + (G[i].2.length - 1) ≤ 20 := by
          have := congrArg List.length ers
          rw [List.length_append, List.length_reverse, List.length_drop] at this
          omega
        obtain ⟨w6, e6, s6, f6, P6⟩ := E139 (d := d + 3) s5 P5 hok (by omega) (by rw [ed]; exact hvs) hlen
        rw [← ers] at P6
        have ef : f_23 (w_sa w4 24 ((w_a w4 24).set n (Int32.ofNat i))) 3 (Int32.ofNat i) = pk G[i] := RS_f23 (RS_Fr R4 f5 (by decide) (by decide)) hil
        refine ⟨(), w6, ⟨s6, Fr_trans f4 (Fr_trans f5 (Fr_mono f6 (by simp) (by simp))), P6, fun k hk => ?_⟩, fun r w' h => sg_137_28 (d := d + 4) s4 rs_3 _ ⟨fun q => absurd q hle, fun _ => ⟨_, e138, fun _ => ⟨o_ok (by omega) (by omega), RS_out R4 hil, w6, ?_, s6, by rw [i_s]; exact h⟩, fun q => absurd q (oI_ne (by omega))⟩⟩⟩
        · rw [Fr_a f6 (by decide), w_a_same s4 ly_24, getD_set32 _ (by omega)]
          by_cases e : k = n
          · subst e
            rw [if_pos rfl]
            unfold stp
            rw [hi]; rfl
          · rw [if_neg e]; exact S4 k (by omega)
        · rw [i_nat (by omega)]
          have : oI (some i) = Int32.ofNat i := rfl
          rw [this, ef]; exact e6) wd.length 0 () w3 (by omega) ⟨s3, f3, P3, fun k hk => by omega⟩
    have W4 := WC_Fr W2 f4 (by decide) (by decide)
    refine ⟨E, w_si w4 19 6 (w_i w4 19 1), hE, ?_, sh_si s4 ly_19 (k := 6) rfl _, Fr_trans f12 (Fr_trans (Fr_mono f4 (by simp) (by simp)) (Fr_si (by decide) _)), fun q => (by rw [hbt] at q; cases q), fun _ => ⟨by rw [w_i_same s4 ly_19 rfl, W4.1], fun k hk => by rw [w_a_si]; exact S4 k hk⟩⟩
    rw [hbt]
    refine gk_E_i rfl rfl (sg_137_0 (d := d + 4) hS rs_3 ⟨w1, e15, s1, _, w2, e73, s2, fun _ => ?_, fun q => absurd q (by decide)⟩)
    rw [hw3]
    refine g4 _ _ (sg_137_28 (d := d + 4) s4 rs_3 _ ⟨fun _ => ⟨rfl, rfl⟩, fun q => absurd ?_ q⟩)
    rw [W4.1]; exact (i_le (by omega) (by omega)).mpr (Nat.le_refl _)
end CD
