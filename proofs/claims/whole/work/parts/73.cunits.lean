/-! part 47: removeUnits of the class -/
theorem putR_PC {C D : Rl → Prop} {H : List Rl} (hs : srt H) (h1 : ∀ r ∈ H, C r) (h2 : ∀ q, D q → q ∈ H) {q : Rl} (hq : C q) : (∀ H', putR (some q) H = some H' → (∀ r ∈ H', C r) ∧ ∀ x, (D x ∨ x = q) → x ∈ H') ∧ (putR (some q) H = none → big C) := by
  by_cases hm : q ∈ H
  · have e : putR (some q) H = some H := by simp [putR, hm]
    rw [e]
    refine ⟨fun H' e => ?_, fun e => by cases e⟩
    cases e
    exact ⟨h1, fun x hx => hx.elim (h2 x) (fun e => e ▸ hm)⟩
  · by_cases hl : H.length < 60
    · have e : putR (some q) H = some (insR q H) := by simp [putR, hm, hl]
      rw [e]
      refine ⟨fun H' e => ?_, fun e => by cases e⟩
      cases e
      refine ⟨fun r hr => ?_, fun x hx => ?_⟩
      · rcases (insR_mem _ _ _).mp hr with rfl | hr
        · exact hq
        · exact h1 r hr
      · rcases hx with hx | rfl
        · exact (insR_mem _ _ _).mpr (Or.inr (h2 x hx))
        · exact (insR_mem _ _ _).mpr (Or.inl rfl)
    · have e : putR (some q) H = none := by simp [putR, hm, hl]
      rw [e]
      exact ⟨fun _ e => (by cases e), fun _ => big_of hs h1 hl hm hq⟩
section CU
variable {d : Nat} {rr : List gk_S} {w : gk_Wd} {G : List Rl}
theorem RS_Fr {w' : gk_Wd} {a : Nat} (h : RS w a G) {A : List Nat} {F : List (Nat × Nat)} (f : Fr A F w w') (h1 : a + 1 ∉ A) (h2 : (a, 1) ∉ F) : RS w' a G := ⟨by rw [Fr_i f h2]; exact h.1, h.2.1, h.2.2.1, by rw [Fr_l f h1]; exact h.2.2.2⟩
theorem RW_or {q : Nat} {M : Nat → Nat → Bool} (hS : gk_Sh rr w) (hq : gp_lay[q]? = some (.inr (.inl (0, 16)))) (h : RW w q M) {r : Rl} (hr : okR r) : RW (w_sa w q ((w_a w q).set r.1 ((w_a w q).getD r.1 0 ||| vs r.2 0))) q (fun i j => M i j || (decide (r.1 = i) && decide (j < 16 ∧ j ∈ r.2))) := by
  refine RW_ext (RW_set hS hq h hr.1 _) fun i hi j => ?_
  by_cases e : i = r.1
  · subst e
    rw [if_pos rfl, bt_or, h r.1 hi j, vs_bt, bt_zero]
    simp
  · rw [if_neg e, decide_eq_false (fun q => e q.symm)]
    simp
/-- findRenamings -/
theorem E103 (hS : gk_Sh rr w) (hR : RS w 8 G) : ∃ (T : Nat → Nat → Bool) (w' : gk_Wd), isT (eM unB G) T ∧ gk_E (d + 2) 103 [.ref 8] w (.inl none) w' ∧ gk_Sh rr w' ∧ Fr [10] [] w w' ∧ RW w' 10 T := by
  have h60 := RS_60 hR
  obtain ⟨-, w1, ⟨s1, f1, h1⟩, g1⟩ := up_loop (α := Unit) (d := d + 2) (mi := 103) (pc := 2) 16 (fun k _ => [some (.ref 8), some (.int (Int32.ofNat k))])
    (fun k _ w1 => gk_Sh rr w1 ∧ Fr [10] [] w w1 ∧ ∀ v, v < k → (w_a w1 10).getD v 0 = 0)
    (fun k _ w1 hk hI => by
      obtain ⟨s1, f1, h1⟩ := hI
      have hl := (w_int s1 ly_10).2
      refine ⟨(), _, ⟨sh_as s1 ly_10 k 0, Fr_trans f1 (Fr_sa (by simp) _), fun v hv => ?_⟩, fun r w' g => sg_103_2 s1 _ ⟨fun q => absurd q (n16 hk), fun _ => ⟨o16 hk, by rw [i_nat (by omega), i_s]; exact g⟩⟩⟩
      rw [w_a_same s1 ly_10, getD_set32 _ (by omega)]
      by_cases e : v = k
      · rw [if_pos e]
      · rw [if_neg e]; exact h1 v (by omega)) 16 0 () w (by omega) ⟨hS, Fr_refl, fun v hv => by omega⟩
  obtain ⟨-, w2, ⟨s2, f2, h2⟩, g2⟩ := up_loop (α := Unit) (d := d + 2) (mi := 103) (pc := 26) G.length (fun k _ => [some (.ref 8), some (.int (Int32.ofNat k))])
    (fun k _ w2 => gk_Sh rr w2 ∧ Fr [10] [] w w2 ∧ RW w2 10 (eM unB (G.take k)))
    (fun k _ w2 hk hI => by
      obtain ⟨s2, f2, h2⟩ := hI
      have R2 : RS w2 8 G := RS_Fr hR f2 (by decide) (by simp)
      have ef := RS_f23 R2 hk
      have hok := RS_ok R2 hk
      have hle : ¬ f_13 w2 8 ≤ Int32.ofNat k := fun q => absurd ((RS_le R2 (by omega)).mp q) (by omega)
      have el : f_25 (f_23 w2 8 (Int32.ofNat k)) = Int32.ofNat G[k].1 := by rw [ef, f_25_pk hok]
      cases hu : unB G[k] with
      | false =>
        refine ⟨(), w2, ⟨s2, f2, RW_ext h2 fun i hi j => by rw [eM_snoc unB hk, hu]; simp⟩, fun r w' g => sg_103_26 (d := d) s2 _ ⟨fun q => absurd q hle, fun _ => ⟨RS_out R2 hk, fun _ => by rw [i_s]; exact g, fun q => ?_⟩⟩⟩
        rw [ef, f_40_pk hok] at q
        exact absurd hu q
      | true =>
        refine ⟨(), _, ⟨sh_as s2 ly_10 G[k].1 _, Fr_trans f2 (Fr_sa (by simp) _), RW_ext (RW_or s2 ly_10 h2 hok) fun i hi j => by rw [eM_snoc unB hk, hu]; simp⟩, fun r w' g => sg_103_26 (d := d) s2 _ ⟨fun q => absurd q hle, fun _ => ⟨RS_out R2 hk, fun q => ?_, fun _ => ⟨RS_out R2 hk, by rw [el]; exact o16 hok.1, RS_out R2 hk, vs G[k].2 0, by rw [ef]; exact E33 s2 hok, by rw [el]; exact o16 hok.1, ?_⟩⟩⟩⟩
        · rw [ef, f_40_pk hok, hu] at q
          cases q
        · rw [el, i_nat (by have := hok.1; omega), i_s]; exact g) G.length 0 () w1 (by omega) ⟨s1, f1, fun i hi j => by rw [h1 i hi, bt_zero]; simp [eM]⟩
  rw [List.take_of_length_le (Nat.le_refl _)] at h2
  obtain ⟨T, w3, hT, e3, s3, f3, h3⟩ := E46 (d := d) ly_10 s2 h2
  have R2 : RS w2 8 G := RS_Fr hR f2 (by decide) (by simp)
  exact ⟨T, w3, hT, gk_E_i rfl rfl (sg_103_0 hS (g1 _ _ (sg_103_2 s1 _ ⟨fun _ => g2 _ _ (sg_103_26 (d := d) s2 _ ⟨fun _ => ⟨w3, e3, s3, rfl, rfl⟩, fun q => absurd ((RS_le R2 (by omega)).mpr (Nat.le_refl _)) q⟩), fun q => absurd y16 q⟩))), s3, Fr_trans f2 f3, h3⟩
/-- giveToRenamed -/
theorem E104 (hS : gk_Sh rr w) {T : Nat → Nat → Bool} (hT : RW w 10 T) {H : List Rl} (hR : RS w 5 H) (hs : srt H) {C D : Rl → Prop} (hC : ∀ r ∈ H, C r) (hD : ∀ q, D q → q ∈ H) {g : Rl} (hg : okR g) (hCg : ∀ v, v < 16 → T v g.1 = true → C (v, g.2)) :
    ∃ (v : gk_Res) (w' : gk_Wd), (gk_Sh rr w' ∧ Fr [6] [(5, 1)] w w' ∧ ((v = .inl (some (.int 1)) ∧ ∃ H', RS w' 5 H' ∧ srt H' ∧ (∀ r ∈ H', C r) ∧ ∀ x, (D x ∨ (x.1 < 16 ∧ T x.1 g.1 = true ∧ x.2 = g.2)) → x ∈ H') ∨ (v = .inl (some (.int 0)) ∧ big C))) ∧ gk_E (d + 2) 104 [.ref 8, .ref 6, .long (pk g)] w v w' := by
  have h16 := hg.1
  obtain ⟨v, w', hQ, hW⟩ := up_exit (d := d + 2) (mi := 104) (pc := 3) 16 (fun k (_ : List Rl) => [some (.ref 8), some (.ref (5 + 1)), some (.long (pk g)), none, some (.int (Int32.ofNat k))])
    (fun k H' w1 => gk_Sh rr w1 ∧ Fr [6] [(5, 1)] w w1 ∧ RS w1 5 H' ∧ srt H' ∧ (∀ r ∈ H', C r) ∧ ∀ x, (D x ∨ (x.1 < k ∧ T x.1 g.1 = true ∧ x.2 = g.2)) → x ∈ H')
    (fun v w' => gk_Sh rr w' ∧ Fr [6] [(5, 1)] w w' ∧ ((v = .inl (some (.int 1)) ∧ ∃ H', RS w' 5 H' ∧ srt H' ∧ (∀ r ∈ H', C r) ∧ ∀ x, (D x ∨ (x.1 < 16 ∧ T x.1 g.1 = true ∧ x.2 = g.2)) → x ∈ H') ∨ (v = .inl (some (.int 0)) ∧ big C)))
    (fun k H1 w1 hk hI => by
      obtain ⟨s1, f1, R1, t1, c1, d1⟩ := hI
      have hb : bt ((w_a w1 10).getD (Int32.ofNat k).toNatClampNeg 0) g.1 = T k g.1 := by
        rw [i_nat (by omega), Fr_a f1 (by decide)]; exact hT k hk g.1
      have hq : okR (k, g.2) := ⟨hk, hg.2.1, hg.2.2⟩
      cases ht : T k g.1 with
      | false =>
        left
        refine ⟨H1, w1, ⟨s1, f1, R1, t1, c1, fun x hx => d1 x ?_⟩, fun v w' h => sg_104_3 (d := d) s1 rs_5 _ _ ⟨fun q => absurd q (n16 hk), fun _ => ⟨o16 hk, fun _ => by rw [i_s]; exact h, fun q => ?_⟩⟩⟩
        · rcases hx with hx | ⟨e1, e2, e3⟩
          · exact Or.inl hx
          · refine Or.inr ⟨?_, e2, e3⟩
            by_cases hxk : x.1 = k
            · rw [hxk, ht] at e2; cases e2
            · omega
        · rw [f_25_pk hg, f_36_0 _ (by omega), hb] at q
          exact absurd ht q
      | true =>
        have hn : ¬ f_36 ((w_a w1 10).getD (Int32.ofNat k).toNatClampNeg 0) (f_25 (pk g)) = 0 := by
          rw [f_25_pk hg, f_36_0 _ (by omega), hb, ht]; decide
        have e105 : f_105 (pk g) (Int32.ofNat k) = pko (some (k, g.2)) := f_105_pk hg hk
        obtain ⟨w2, e2, s2, f2, p2⟩ := E94 (d := d) s1 rs_5 R1 t1 (okO_some hq)
        obtain ⟨q1, q2⟩ := putR_PC t1 c1 d1 (hCg k hk ht)
        cases hp : putR (some (k, g.2)) H1 with
        | none =>
          rw [hp] at e2
          right
          exact ⟨_, w2, ⟨s2, Fr_trans f1 f2, Or.inr ⟨rfl, q2 hp⟩⟩, sg_104_3 (d := d) s1 rs_5 _ _ ⟨fun q => absurd q (n16 hk), fun _ => ⟨o16 hk, fun q => absurd q hn, fun _ => ⟨0, w2, by rw [e105]; exact e2, s2, fun q => absurd rfl q, fun _ => ⟨rfl, rfl⟩⟩⟩⟩⟩
        | some H2 =>
          rw [hp] at e2
          obtain ⟨R2, t2⟩ := p2 H2 hp
          obtain ⟨c2, d2⟩ := q1 H2 hp
          left
          refine ⟨H2, w2, ⟨s2, Fr_trans f1 f2, R2, t2, c2, fun x hx => d2 x ?_⟩, fun v w' h => sg_104_3 (d := d) s1 rs_5 _ _ ⟨fun q => absurd q (n16 hk), fun _ => ⟨o16 hk, fun q => absurd q hn, fun _ => ⟨1, w2, by rw [e105]; exact e2, s2, fun _ => by rw [i_s]; exact h, fun q => absurd q (by decide)⟩⟩⟩⟩
          rcases hx with hx | ⟨e1, e3, e4⟩
          · exact Or.inl (Or.inl hx)
          · by_cases hxk : x.1 = k
            · exact Or.inr (Prod.ext hxk e4)
            · exact Or.inl (Or.inr ⟨by omega, e3, e4⟩))
    (fun H1 w1 hI => by
      obtain ⟨s1, f1, R1, t1, c1, d1⟩ := hI
      exact ⟨_, w1, ⟨s1, f1, Or.inl ⟨rfl, H1, R1, t1, c1, d1⟩⟩, sg_104_3 (d := d) s1 rs_5 _ _ ⟨fun _ => ⟨rfl, rfl⟩, fun q => absurd y16 q⟩⟩)
    16 0 H w (by omega) ⟨hS, Fr_refl, hR, hs, hC, fun x hx => by
      rcases hx with hx | hx
      · exact hD x hx
      · omega⟩
  exact ⟨v, w', hQ, gk_E_i rfl rfl (sg_104_0 (d := d) hS rs_5 _ hW)⟩
/-- what comes of the rules when renamed variables get them -/
def cP (T : Nat → Nat → Bool) (G : List Rl) (r : Rl) : Prop := r ∈ G ∨ ∃ g ∈ G, unB g = false ∧ r.1 < 16 ∧ T r.1 g.1 = true ∧ r.2 = g.2
def nuB (r : Rl) : Bool := !unB r
def plaR (G : List Rl) (o : Option (List Rl)) : Prop := ∃ T : Nat → Nat → Bool, isT (eM unB G) T ∧ match o with
  | some K => ∃ H, isClo (cP T G) H ∧ H.length ≤ 60 ∧ K = H.filter nuB
  | none => big (cP T G)
theorem plaR_uniq {G : List Rl} {o o' : Option (List Rl)} (h : plaR G o) (h' : plaR G o') : o = o' := by
  obtain ⟨T, h1, h2⟩ := h
  obtain ⟨T', h1', h2'⟩ := h'
  have e : cP T G = cP T' G := by
    funext r
    apply propext
    unfold cP
    refine or_congr Iff.rfl (exists_congr fun g => and_congr Iff.rfl (and_congr Iff.rfl ?_))
    constructor
    · rintro ⟨q1, q2, q3⟩
      exact ⟨q1, by rw [← isT_uniq h1 h1' q1]; exact q2, q3⟩
    · rintro ⟨q1, q2, q3⟩
      exact ⟨q1, by rw [isT_uniq h1 h1' q1]; exact q2, q3⟩
  rw [e] at h2
  cases o with
  | none =>
    cases o' with
    | none => rfl
    | some K =>
      obtain ⟨H, q1, q2, q3⟩ := h2'
      exact absurd h2 (isClo_big q1 q2)
  | some K =>
    obtain ⟨H, q1, q2, q3⟩ := h2
    cases o' with
    | none => exact absurd h2' (isClo_big q1 q2)
    | some K' =>
      obtain ⟨H', q1', q2', q3'⟩ := h2'
      rw [q3, q3', isClo_uniq q1 q1']
theorem E102_f (hS : gk_Sh rr w) {H : List Rl} (hR : RS w 5 H) : ∃ w', gk_Sh rr w' ∧ Fr [6] [(5, 1)] w w' ∧ RS w' 5 (H.filter nuB) ∧ gk_W none (d + 2) 102 70 [none, some (.ref 6), some (.int (f_13 w 5 - 1))] [] w (.inl (some (.int 1))) w' := by
  obtain ⟨w1, s1, f1, R1, g1⟩ := dn_RS (d := d + 2) (mi := 102) (pc := 70) rs_5 nuB (fun x => [none, some (.ref (5 + 1)), some (.int x)]) (d + 1) (fun k w H hk hS hR r w' h1 h2 => by
    have h60 := RS_60 hR
    have ef := RS_f23 hR hk
    have hok := RS_ok hR hk
    refine sg_102_70 (d := d) hS rs_5 _ ⟨fun q => absurd q (i_neg (by omega)), fun _ => ⟨RS_out hR hk, fun q => ?_, fun q => ?_⟩⟩
    · rw [ef, f_40_pk hok] at q
      rw [i_m1]; exact h1 (by simp [nuB, q])
    · rw [ef, f_40_pk hok] at q
      rw [i_m1]; exact h2 (by simp [nuB]; simpa using q)) H.length w H hS hR (Nat.le_refl _)
  rw [dfl_all] at R1
  rw [RS_f13 hR]
  exact ⟨w1, s1, f1, R1, g1 _ _ (sg_102_70 (d := d) s1 rs_5 _ ⟨fun _ => ⟨rfl, rfl⟩, fun q => absurd i_z1 q⟩)⟩
/-- removeUnits -/
theorem E102 (hS : gk_Sh rr w) (hR : RS w 5 G) (hs : srt G) : ∃ (o : Option (List Rl)) (w' : gk_Wd), plaR G o ∧ gk_E (d + 3) 102 [.ref 8, .ref 6] w (.inl (some (.int (bI o.isSome)))) w' ∧ gk_Sh rr w' ∧ Fr [6, 9, 10] [(5, 1), (8, 1)] w w' ∧ ∀ K, o = some K → RS w' 5 K ∧ srt K := by
  obtain ⟨w1, e1, s1, f1, B1⟩ := E20 (d := d + 2) hS rs_8 rs_5 (by decide) hR
  obtain ⟨T, w2, hT, e2, s2, f2, h2⟩ := E103 (d := d) s1 B1
  have h60 := RS_60 hR
  have R2 : RS w2 5 G := RS_Fr (RS_Fr hR f1 (by decide) (by decide)) f2 (by decide) (by simp)
  have B2 : RS w2 8 G := RS_Fr B1 f2 (by decide) (by simp)
  obtain ⟨v, w3, ⟨s3, f3, hv⟩, g3⟩ := up_exit (d := d + 3) (mi := 102) (pc := 14) G.length (fun k (_ : List Rl) => [some (.ref 8), some (.ref (5 + 1)), some (.int (Int32.ofNat k))])
    (fun k H w1 => gk_Sh rr w1 ∧ Fr [6] [(5, 1)] w2 w1 ∧ RS w1 5 H ∧ srt H ∧ (∀ r ∈ H, cP T G r) ∧ ∀ x, (x ∈ G ∨ ∃ (j : Nat) (hj : j < G.length), j < k ∧ unB G[j] = false ∧ x.1 < 16 ∧ T x.1 G[j].1 = true ∧ x.2 = G[j].2) → x ∈ H)
    (fun v w' => gk_Sh rr w' ∧ Fr [6] [(5, 1)] w2 w' ∧ ((v = .inl (some (.int 1)) ∧ ∃ H, isClo (cP T G) H ∧ H.length ≤ 60 ∧ RS w' 5 (H.filter nuB)) ∨ (v = .inl (some (.int 0)) ∧ big (cP T G))))
    (fun k H1 w3 hk hI => by
      obtain ⟨s3, f3, R3, t3, c3, d3⟩ := hI
      have B3 : RS w3 8 G := RS_Fr B2 f3 (by decide) (by decide)
      have ef := RS_f23 B3 hk
      have hok := RS_ok B3 hk
      have hle : ¬ f_13 w3 8 ≤ Int32.ofNat k := fun q => absurd ((RS_le B3 (by omega)).mp q) (by omega)
      cases hu : unB G[k] with
      | true =>
        left
        refine ⟨H1, w3, ⟨s3, f3, R3, t3, c3, fun x hx => d3 x ?_⟩, fun v w' h => sg_102_14 (d := d + 1) s3 rs_5 _ ⟨fun q => absurd q hle, fun _ => ⟨RS_out B3 hk, fun _ => by rw [i_s]; exact h, fun q => ?_⟩⟩⟩
        · rcases hx with hx | ⟨j, hj, e0, e1, e2⟩
          · exact Or.inl hx
          · refine Or.inr ⟨j, hj, ?_, e1, e2⟩
            by_cases hjk : j = k
            · subst hjk; rw [hu] at e1; cases e1
            · omega
        · rw [ef, f_40_pk hok, hu] at q
          cases q
      | false =>
        have hn : f_40 (f_23 w3 8 (Int32.ofNat k)) = 0 := by rw [ef, f_40_pk hok]; exact hu
        obtain ⟨v, w4, ⟨s4, f4, hv⟩, e4⟩ := E104 (d := d) s3 (RW_congr h2 (Fr_a f3 (by decide))) R3 t3 (C := cP T G) c3 d3 hok (fun v hv ht => Or.inr ⟨G[k], List.getElem_mem hk, hu, hv, ht, rfl⟩)
        rcases hv with ⟨rfl, H2, R4, t4, c4, d4⟩ | ⟨rfl, hb⟩
        · left
          refine ⟨H2, w4, ⟨s4, Fr_trans f3 f4, R4, t4, c4, fun x hx => d4 x ?_⟩, fun v w' h => sg_102_14 (d := d + 1) s3 rs_5 _ ⟨fun q => absurd q hle, fun _ => ⟨RS_out B3 hk, fun q => absurd hn q, fun _ => ⟨RS_out B3 hk, 1, w4, by rw [ef]; exact e4, s4, fun _ => by rw [i_s]; exact h, fun q => absurd q (by decide)⟩⟩⟩⟩
          rcases hx with hx | ⟨j, hj, e0, e1, e2, e3, e5⟩
          · exact Or.inl (Or.inl hx)
          · by_cases hjk : j = k
            · subst hjk; exact Or.inr ⟨e2, e3, e5⟩
            · exact Or.inl (Or.inr ⟨j, hj, by omega, e1, e2, e3, e5⟩)
        · right
          exact ⟨_, w4, ⟨s4, Fr_trans f3 f4, Or.inr ⟨rfl, hb⟩⟩, sg_102_14 (d := d + 1) s3 rs_5 _ ⟨fun q => absurd q hle, fun _ => ⟨RS_out B3 hk, fun q => absurd hn q, fun _ => ⟨RS_out B3 hk, 0, w4, by rw [ef]; exact e4, s4, fun q => absurd rfl q, fun _ => ⟨rfl, rfl⟩⟩⟩⟩⟩)
    (fun H1 w3 hI => by
      obtain ⟨s3, f3, R3, t3, c3, d3⟩ := hI
      have B3 : RS w3 8 G := RS_Fr B2 f3 (by decide) (by decide)
      obtain ⟨w4, s4, f4, R4, g4⟩ := E102_f (d := d + 1) s3 R3
      refine ⟨_, w4, ⟨s4, Fr_trans f3 f4, Or.inl ⟨rfl, H1, ⟨t3, fun r => ⟨c3 r, fun h => d3 r ?_⟩⟩, RS_60 R3, R4⟩⟩, sg_102_14 (d := d + 1) s3 rs_5 _ ⟨fun _ => g4, fun q => absurd ((RS_le B3 (by omega)).mpr (Nat.le_refl _)) q⟩⟩
      rcases h with h | ⟨g, hg, e1, e2, e3, e4⟩
      · exact Or.inl h
      · obtain ⟨j, hj, rfl⟩ := List.mem_iff_getElem.mp hg
        exact Or.inr ⟨j, hj, hj, e1, e2, e3, e4⟩)
    G.length 0 G w2 (by omega) ⟨s2, Fr_refl, R2, hs, fun r hr => Or.inl hr, fun x hx => by
      rcases hx with hx | ⟨j, hj, h0, _⟩
      · exact hx
      · omega⟩
  have hF : Fr [6, 9, 10] [(5, 1), (8, 1)] w w3 := Fr_trans (Fr_mono f1 (by simp) (by simp)) (Fr_trans (Fr_mono f2 (by simp) (by simp)) (Fr_mono f3 (by simp) (by simp)))
  have hE : gk_E (d + 3) 102 [.ref 8, .ref 6] w v w3 := gk_E_i rfl rfl (sg_102_0 (d := d + 1) hS rs_5 ⟨w1, e1, s1, w2, e2, s2, g3⟩)
  rcases hv with ⟨rfl, H, c1, c2, c3⟩ | ⟨rfl, hb⟩
  · exact ⟨some (H.filter nuB), w3, ⟨T, hT, H, c1, c2, rfl⟩, hE, s3, hF, fun K e => by cases e; exact ⟨c3, srt_filter c1.1 _⟩⟩
  · exact ⟨none, w3, ⟨T, hT, hb⟩, hE, s3, hF, fun K e => by cases e⟩
end CU
