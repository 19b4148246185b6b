/-! part 82: rule of both -/
section RV
variable {xs : List Int32} {rr r1 : List gk_S} {w w' w1 w2 : gk_Wd} {G H K : List Rl} {D S : List Int32} {fa x4 : Int32} {wd : List Nat} {d : Nat}
theorem sy_ok {c : Int32} (h : ¬ f_145 c 72 < 0) : sy c < 22 ∧ f_145 c 72 = Int32.ofNat (sy c) ∧ ((f_67 c = 0 ∧ c - 65 = Int32.ofNat (sy c)) ∨ (¬ f_67 c = 0 ∧ f_68 c = Int32.ofNat (sy c))) := by
  unfold sy
  rcases syC c with ⟨v, hv, e1, e2, e3, e4⟩ | ⟨s, h1, h2, e1, e2, e3, e4⟩ | ⟨e1, e2, e3⟩
  · rw [e1, i_nat (by omega)]; exact ⟨by omega, rfl, Or.inl ⟨e3, e4⟩⟩
  · rw [e1, i_nat (by omega)]; exact ⟨by omega, rfl, Or.inr ⟨by rw [e3]; decide, e4⟩⟩
  · rw [e1] at h; exact absurd (by decide) h
theorem sy_0 {c : Int32} (h : ¬ f_86 c (Int32.ofNat 0) = 0) : sy c < 16 ∧ f_145 c 72 = Int32.ofNat (sy c) ∧ c - 65 = Int32.ofNat (sy c) := by
  rw [f86_0] at h
  unfold sy
  rcases syC c with ⟨v, hv, e1, e2, e3, e4⟩ | ⟨s, h1, h2, e1, e2, e3, e4⟩ | ⟨e1, e2, e3⟩
  · rw [e1, i_nat (by omega)]; exact ⟨by omega, rfl, e4⟩
  · rw [e1] at h; exact absurd (Or.inr ((i_le (a := 16) (by omega) (by omega)).mpr h1)) h
  · rw [e1] at h; exact absurd (Or.inl (by decide)) h
def qD (D : List Int32) : Rl := (sy (D.getD 0 0), (D.drop 2).map sy)
/-- a draft without a fault -/
def okD (D : List Int32) : Prop := 2 ≤ D.length ∧ D.length ≤ 8 ∧ (sy (D.getD 0 0) < 16 ∧ f_145 (D.getD 0 0) 72 = Int32.ofNat (sy (D.getD 0 0)) ∧ D.getD 0 0 - 65 = Int32.ofNat (sy (D.getD 0 0))) ∧ ∀ (k : Nat) (c : Int32), 2 ≤ k → D[k]? = some c → sy c < 22 ∧ f_145 c 72 = Int32.ofNat (sy c) ∧ ((f_67 c = 0 ∧ c - 65 = Int32.ofNat (sy c)) ∨ (¬ f_67 c = 0 ∧ f_68 c = Int32.ofNat (sy c)))
theorem okD_of (h : fpL D 0 = none) (h9 : D.length ≤ 9) : okD D := by
  obtain ⟨h1, h2⟩ := fpL_none h
  rw [Nat.zero_add] at h2
  have h1' : ∀ (j : Nat) (c : Int32), D[j]? = some c → ¬ f_86 c (Int32.ofNat j) = 0 := fun j c hc => by
    have := h1 j c hc
    rwa [Nat.zero_add] at this
  refine ⟨h2, ?_, ?_, fun k c hk hc => ?_⟩
  · by_cases q : D.length ≤ 8
    · exact q
    · have := h1' 8 D[8] (List.getElem?_eq_getElem (by omega))
      exact absurd ((f86_2 _ (by omega) (by omega)).mpr (Or.inl (Nat.le_refl 8))) this
  · have hz : D[0]? = some (D.getD 0 0) := by
      rw [List.getD_eq_getElem?_getD, List.getElem?_eq_getElem (by omega)]; rfl
    exact sy_0 (h1' 0 _ hz)
  · have hkl : k < D.length := (List.getElem?_eq_some_iff.mp hc).1
    have := h1' k c hc
    rw [f86_2 _ hk (by omega)] at this
    exact sy_ok (fun q => this (Or.inr q))
theorem qD_ok (h : okD D) : okR (qD D) := by
  refine ⟨h.2.2.1.1, ?_, fun x hx => ?_⟩
  · show ((D.drop 2).map sy).length ≤ 10
    rw [List.length_map, List.length_drop]; have := h.2.1; omega
  · obtain ⟨c, hc, rfl⟩ := List.mem_map.mp hx
    obtain ⟨j, hj, e⟩ := List.getElem_of_mem hc
    rw [List.getElem_drop] at e
    exact (h.2.2.2 (2 + j) c (by omega) (by rw [← e]; exact List.getElem?_eq_getElem _)).1
theorem E89_l (hS : gk_Sh rr w) (hD : LQ w 1 1 2 9 D) (h : okD D) : ∀ (m k : Nat), k + m = D.length → 2 ≤ k → gk_W none (d + 2) 89 15 [some (.ref 2), some (.long (pk (sy (D.getD 0 0), ((D.take k).drop 2).map sy))), none, some (.int (Int32.ofNat k)), none] [] w (.inl (some (.long (pk (qD D))))) w
  | 0, k, hk, h2 => by
    have h9 := hD.2.1
    obtain rfl : k = D.length := by omega
    rw [List.take_length]
    exact sg_89_15 hS _ _ ⟨fun _ => ⟨rfl, rfl⟩, fun q => absurd (by rw [hD.1]; exact (i_le (by omega) (by omega)).mpr (Nat.le_refl _)) q⟩
  | m + 1, k, hk, h2 => by
    have h9 := hD.2.1
    have h8 := h.2.1
    have hkl : k < D.length := by omega
    have ea := LQ_at hD hkl (by omega)
    obtain ⟨a1, a2, a3⟩ := h.2.2.2 k D[k] h2 (List.getElem?_eq_getElem hkl)
    have hlen : (((D.take k).drop 2).map sy).length < 10 := by
      rw [List.length_map, List.length_drop, List.length_take]; omega
    have hok : okR (sy (D.getD 0 0), ((D.take k).drop 2).map sy) := by
      have hq := qD_ok h
      refine ⟨hq.1, Nat.le_of_lt hlen, fun x hx => hq.2.2 x ?_⟩
      obtain ⟨c, hc, rfl⟩ := List.mem_map.mp hx
      refine List.mem_map.mpr ⟨c, ?_, rfl⟩
      rw [List.drop_take] at hc
      exact List.mem_of_mem_take hc
    have ih := E89_l hS hD h m (k + 1) (by omega) (by omega)
    have es : ((D.take (k + 1)).drop 2).map sy = ((D.take k).drop 2).map sy ++ [sy D[k]] := by
      rw [List.take_add_one, List.getElem?_eq_getElem hkl, List.drop_append_of_le_length (by rw [List.length_take]; omega), List.map_append]; rfl
    have ep : f_91 (pk (sy (D.getD 0 0), ((D.take k).drop 2).map sy)) (Int32.ofNat (sy D[k])) = pk (sy (D.getD 0 0), ((D.take (k + 1)).drop 2).map sy) := by
      rw [f_91_pk hok a1, if_pos hlen, es]
    refine sg_89_15 hS _ _ ⟨fun q => absurd (by rw [hD.1] at q; exact (i_le (by omega) (by omega)).mp q) (by omega), fun _ => ⟨o_ok (by omega) (by omega), ?_⟩⟩
    rw [ea]
    rcases a3 with ⟨b1, b2⟩ | ⟨b1, b2⟩
    · exact ⟨fun _ => by rw [b2, ep, i_s]; exact ih, fun q => absurd b1 q⟩
    · exact ⟨fun q => absurd q b1, fun _ => by rw [b2, ep, i_s]; exact ih⟩
theorem E89 (hS : gk_Sh rr w) (hD : LQ w 1 1 2 9 D) (h : okD D) : gk_E (d + 2) 89 [.ref 2] w (.inl (some (.long (pk (qD D))))) w := gk_E_i rfl rfl (sg_89_0 hS (by
  have h2 := h.1
  have e0 : (w_a w 2).getD 0 0 = D.getD 0 0 := hD.2.2 0 _ (by rw [List.getD_eq_getElem?_getD, List.getElem?_eq_getElem (by omega)]; rfl)
  have := E89_l (d := d) hS hD h (D.length - 2) 2 (by omega) (by omega)
  have ez : ((D.take 2).drop 2).map sy = [] := by rw [List.drop_eq_nil_of_le (by rw [List.length_take]; omega)]; rfl
  rw [ez] at this
  rw [e0, h.2.2.1.2.2, f_90_pk h.2.2.1.1]
  exact this))
theorem posR_ins (q : Rl) : ∀ G : List Rl, posR q (insR q G) = posR q G
  | [] => by
    show posR q [q] = _
    rw [posR_cons, if_neg (Nat.lt_irrefl _)]; rfl
  | g :: G => by
    by_cases h : pkN g < pkN q
    · have e : insR q (g :: G) = g :: insR q G := by
        unfold insR; rw [posR_cons, if_pos h]; rfl
      rw [e, posR_cons, if_pos h, posR_cons, if_pos h, posR_ins q G]
    · have e : insR q (g :: G) = q :: g :: G := by
        unfold insR; rw [posR_cons, if_neg h]; rfl
      rw [e, posR_cons, if_neg (Nat.lt_irrefl _), posR_cons, if_neg h]
theorem E88 (hS : gk_Sh rr w) : gk_E d 88 [.ref 2] w (.inl none) (w_si w 1 1 0) := gk_E_i rfl rfl (sg_88_0 hS ⟨rfl, rfl⟩)
theorem CV_fa (hS : gk_Sh rr w) (h : CV w G D fa wd S) (v : Int32) : gk_Sh rr (w_si w 0 8 v) ∧ Fr CA CF w (w_si w 0 8 v) ∧ CV (w_si w 0 8 v) G D v wd S := by
  have f : Fr [] [(0, 8)] w (w_si w 0 8 v) := Fr_si (by decide) _
  exact ⟨sh_si hS ly_0 rfl _, fr_c f, RS_Fr h.1 f (by decide) (by decide), h.2.1, LQ_Fr h.2.2.1 f (by decide) (by decide), w_i_same hS ly_0 rfl, WC_Fr h.2.2.2.2.1 f (by decide) (by decide), LQ_Fr h.2.2.2.2.2 f (by decide) (by decide)⟩
theorem CV_de (hS : gk_Sh rr w) (h : CV w G D fa wd S) : gk_Sh rr (w_si w 1 1 0) ∧ Fr CA CF w (w_si w 1 1 0) ∧ CV (w_si w 1 1 0) G [] fa wd S := by
  have f : Fr [] [(1, 1)] w (w_si w 1 1 0) := Fr_si (by decide) _
  exact ⟨sh_si hS ly_1 rfl _, fr_c f, RS_Fr h.1 f (by decide) (by decide), h.2.1, LQ_nil (w_i_same hS ly_1 rfl), by rw [Fr_i f (by decide)]; exact h.2.2.2.1, WC_Fr h.2.2.2.2.1 f (by decide) (by decide), LQ_Fr h.2.2.2.2.2 f (by decide) (by decide)⟩
theorem c_1f (hS : gk_Sh rr w) (hc : CV w G D fa wd S) {k : Nat} (hk : fpL D 0 = some k) (hb : k < 2147483648) : CX 83 rr w 1 0 G [] (Int32.ofNat k) wd S := by
  have e1 := E85 (d := 3) hS hc.2.2.1
  rw [hk] at e1
  obtain ⟨s1, f1, c1⟩ := CV_fa hS hc (Int32.ofNat k)
  obtain ⟨s2, f2, c2⟩ := CV_de s1 c1
  have n1 : ¬ w_i (w_si w 0 8 (Int32.ofNat k)) 0 8 = -1 := by
    rw [c1.2.2.2.1]
    exact fun q => i_neg hb (by rw [q]; decide)
  have e2 : gk_E 6 84 [.ref 1] w (.inr 9) (w_si (w_si w 0 8 (Int32.ofNat k)) 1 1 0 ++ [.inl (9, [])]) := gk_E_i rfl rfl (sg_84_0 (d := 5) hS ⟨_, e1, fun q => absurd q n1, fun _ => ⟨_, E88 s1, s2, by decide, rfl, rfl⟩⟩)
  exact ⟨_, _, gk_E_i rfl rfl (sg_83_t9 (d := 6) hS ⟨_, _, e2, sh_thr s2 9, rfl, rfl⟩), sh_thr s2 9, Or.inr ⟨9, by simp, rfl⟩, Fr_trans f1 (Fr_trans f2 (Fr_thr 9)), CV_Fr (A := []) (F := []) c2 (Fr_thr 9) (by decide) (by decide), fun q => absurd q (by decide)⟩
theorem c_1g (hS : gk_Sh rr w) (hc : CV w G D fa wd S) (hk : fpL D 0 = none) : (qD D ∈ G → CX 83 rr w 0 (Int32.ofNat (posR (qD D) G)) G [] (-1) wd S) ∧ (qD D ∉ G → G.length < 60 → CX 83 rr w 0 (Int32.ofNat (posR (qD D) G)) (insR (qD D) G) [] (-1) wd []) ∧ (qD D ∉ G → G.length = 60 → CX 83 rr w 2 0 G [] (-1) wd S) := by
  have hD := okD_of hk hc.2.2.1.2.1
  have hq := qD_ok hD
  have e1 := E85 (d := 3) hS hc.2.2.1
  rw [hk] at e1
  obtain ⟨s1, f1, c1⟩ := CV_fa hS hc (oI none)
  obtain ⟨s2, f2, c2⟩ := CV_de s1 c1
  have p1 : w_i (w_si w 0 8 (oI none)) 0 8 = -1 := c1.2.2.2.1
  have e2 := E89 (d := 3) s1 c1.2.2.1 hD
  have e3 := E92 (d := 4) s2 rs_3 c2.1 c2.2.1 hq
  have e4 := E93 (d := 5) s2 rs_3 c2.1 hq
  have f12 := Fr_trans f1 f2
  generalize hw7 : w_si (w_si w 0 8 (oI none)) 1 1 0 = w7 at s2 f2 c2 e3 e4 f12
  have e5 : gk_E 5 88 [.ref 2] (w_si w 0 8 (oI none)) (.inl none) w7 := by rw [← hw7]; exact E88 s1
  refine ⟨fun hm => ?_, fun hm hl => ?_, fun hm hl => ?_⟩
  · rw [if_pos hm] at e3
    have e6 : gk_E 6 84 [.ref 1] w (.inl (some (.int (Int32.ofNat (posR (qD D) G))))) w7 := gk_E_i rfl rfl (sg_84_0 (d := 5) hS ⟨_, e1, fun _ => ⟨_, e2, w7, e5, s2, _, e3, fun _ => ⟨_, e4, rfl, rfl⟩, fun q => absurd q (by decide)⟩, fun q => absurd p1 q⟩)
    exact ⟨_, rr, gk_E_i rfl rfl (sg_83_ok (d := 6) hS ⟨_, w7, rr, e6, s2, rfl, rfl⟩), l54_sh s2 _, Or.inl rfl, Fr_trans f12 (fr_c (l54_fr _)), CV_54 c2 _, fun _ => l54_at s2 _⟩
  · rw [if_neg hm] at e3
    obtain ⟨w8, e8, s8, f8, g8⟩ := E94 (d := 4) s2 rs_3 c2.1 c2.2.1 (o := some (qD D)) (fun r hr => by cases hr; exact hq)
    have ep : putR (some (qD D)) G = some (insR (qD D) G) := by simp only [putR]; rw [if_neg hm, if_pos hl]
    rw [ep] at e8
    obtain ⟨r8, t8⟩ := g8 _ ep
    have c8 := CV_G c2 f8 r8 t8 (by decide) (by decide)
    have s9 := fg_sh s8
    have c9 := CV_fg s8 c8
    have e9 := E93 (d := 5) s9 rs_3 c9.1 hq
    rw [posR_ins] at e9
    have e6 : gk_E 6 84 [.ref 1] w (.inl (some (.int (Int32.ofNat (posR (qD D) G))))) (w_si w8 19 6 0) := gk_E_i rfl rfl (sg_84_0 (d := 5) hS ⟨_, e1, fun _ => ⟨_, e2, w7, e5, s2, _, e3, fun q => absurd rfl q, fun _ => ⟨_, w8, e8, s8, fun _ => ⟨_, E15 s8, s9, _, e9, rfl, rfl⟩, fun q => absurd q (by decide : ¬ (1 : Int32) = 0)⟩⟩, fun q => absurd p1 q⟩)
    exact ⟨_, rr, gk_E_i rfl rfl (sg_83_ok (d := 6) hS ⟨_, _, rr, e6, s9, rfl, rfl⟩), l54_sh s9 _, Or.inl rfl, Fr_trans f12 (Fr_trans (fr_c f8) (Fr_trans (fr_c fg_fr) (fr_c (l54_fr _)))), CV_54 c9 _, fun _ => l54_at s9 _⟩
  · rw [if_neg hm] at e3
    have e8 : gk_E 5 94 [.ref 4, .long (pk (qD D))] w7 (.inl (some (.int 0))) w7 := E94_c (d := 4) s2 rs_3 c2.1 c2.2.1 hq (fun q => absurd q hm) (fun _ _ => ⟨rfl, rfl⟩) (fun _ q => absurd q (by omega))
    have e6 : gk_E 6 84 [.ref 1] w (.inr 10) (w7 ++ [.inl (10, [])]) := gk_E_i rfl rfl (sg_84_0 (d := 5) hS ⟨_, e1, fun _ => ⟨_, e2, w7, e5, s2, _, e3, fun q => absurd rfl q, fun _ => ⟨_, w7, e8, s2, fun q => absurd rfl q, fun _ => ⟨by decide, rfl, rfl⟩⟩⟩, fun q => absurd p1 q⟩)
    exact ⟨_, _, gk_E_i rfl rfl (sg_83_t10 (d := 6) hS ⟨_, _, e6, sh_thr s2 10, rfl, rfl⟩), sh_thr s2 10, Or.inr ⟨10, by simp, rfl⟩, Fr_trans f12 (Fr_thr 10), CV_Fr (A := []) (F := []) c2 (Fr_thr 10) (by decide) (by decide), fun q => absurd q (by decide)⟩
end RV
