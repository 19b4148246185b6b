/-! part 56: Greibach's form: the class -/
def stR (od : Nat → Bool) (x : Nat) (p : List Rl × Nat) (o : Option (List Rl × Nat)) : Prop := if od x = true then (match itO (fstI (elB x)) (301 - p.2) p.1 p.2 with
    | none => o = none
    | some q => ∃ o1, uwR x q.1 o1 ∧ o = o1.map fun K => (K, q.2)) else o = some p
def chR (od : Nat → Bool) : List Nat → List Rl × Nat → Option (List Rl × Nat) → Prop
  | [], p, o => o = some p
  | x :: xs, p, o => ∃ o1, stR od x p o1 ∧ match o1 with
    | none => o = none
    | some q => chR od xs q o
def mkG (od : Nat → Bool) (p : List Rl × Nat) (o : Option (List Rl)) : Prop := ∃ o1, chR od (List.range 16) p o1 ∧ match o1 with
  | none => o = none
  | some q => match itO (nxI od) (301 - q.2) q.1 q.2 with
    | none => o = none
    | some t => o = nmC lts t.1
def lhs (G : List Rl) (v : Nat) : Bool := G.any fun r => decide (r.1 = v)
def greR (G : List Rl) (o : Option (List Rl)) : Prop := ∃ o1, solR G o1 ∧ match o1 with
  | none => o = none
  | some G1 => ∃ o2, plaR G1 o2 ∧ match o2 with
    | none => o = none
    | some G2 => ∃ G3, isU G2 G3 ∧ mkG (lhs G3) (G3, 0) o
theorem stR_uniq {od : Nat → Bool} {x : Nat} {p : List Rl × Nat} {o o' : Option (List Rl × Nat)} (h : stR od x p o) (h' : stR od x p o') : o = o' := by
  unfold stR at h h'
  by_cases hx : od x = true
  · rw [if_pos hx] at h h'
    cases hi : itO (fstI (elB x)) (301 - p.2) p.1 p.2 with
    | none => rw [hi] at h h'; rw [h, h']
    | some q =>
      rw [hi] at h h'
      obtain ⟨o1, h1, rfl⟩ := h
      obtain ⟨o1', h1', rfl⟩ := h'
      rw [uwR_uniq h1 h1']
  · rw [if_neg hx] at h h'; rw [h, h']
theorem chR_uniq {od : Nat → Bool} : ∀ {xs : List Nat} {p : List Rl × Nat} {o o' : Option (List Rl × Nat)}, chR od xs p o → chR od xs p o' → o = o'
  | [], p, o, o', h, h' => by
    have e1 : o = some p := h
    have e2 : o' = some p := h'
    rw [e1, e2]
  | x :: xs, p, o, o', h, h' => by
    obtain ⟨o1, h1, h2⟩ := h
    obtain ⟨o1', h1', h2'⟩ := h'
    obtain rfl := stR_uniq h1 h1'
    cases o1 with
    | none =>
      have e1 : o = none := h2
      have e2 : o' = none := h2'
      rw [e1, e2]
    | some q => exact chR_uniq (xs := xs) h2 h2'
theorem mkG_uniq {od : Nat → Bool} {p : List Rl × Nat} {o o' : Option (List Rl)} (h : mkG od p o) (h' : mkG od p o') : o = o' := by
  obtain ⟨o1, h1, h2⟩ := h
  obtain ⟨o1', h1', h2'⟩ := h'
  obtain rfl := chR_uniq h1 h1'
  cases o1 with
  | none =>
    have e1 : o = none := h2
    have e2 : o' = none := h2'
    rw [e1, e2]
  | some q =>
    simp only at h2 h2'
    cases hi : itO (nxI od) (301 - q.2) q.1 q.2 with
    | none => rw [hi] at h2 h2'; rw [h2, h2']
    | some t => rw [hi] at h2 h2'; rw [h2, h2']
theorem greR_uniq {G : List Rl} {o o' : Option (List Rl)} (h : greR G o) (h' : greR G o') : o = o' := by
  obtain ⟨o1, h1, h2⟩ := h
  obtain ⟨o1', h1', h2'⟩ := h'
  obtain rfl := solR_uniq h1 h1'
  cases o1 with
  | none =>
    have e1 : o = none := h2
    have e2 : o' = none := h2'
    rw [e1, e2]
  | some G1 =>
    obtain ⟨o2, q1, q2⟩ := h2
    obtain ⟨o2', q1', q2'⟩ := h2'
    obtain rfl := plaR_uniq q1 q1'
    cases o2 with
    | none =>
      have e1 : o = none := q2
      have e2 : o' = none := q2'
      rw [e1, e2]
    | some G2 =>
      obtain ⟨G3, p1, p2⟩ := q2
      obtain ⟨G3', p1', p2'⟩ := q2'
      obtain rfl := isU_uniq p1 p1'
      exact mkG_uniq p2 p2'
theorem rg_s : ∀ k : Fin 16, (List.range 16).drop k.1 = k.1 :: (List.range 16).drop (k.1 + 1) := by decide
section MK
variable {d : Nat} {rr : List gk_S} {w : gk_Wd} {G : List Rl}
theorem E108_l (hS : gk_Sh rr w) {X : Int32} {od : Nat → Bool} (hX : ∀ v, v < 16 → bt X v = od v) (hR : RS w 5 G) (hs : srt G) {c : Nat} (hc : w_i w 11 2 = Int32.ofNat c) (h3 : c ≤ 300) : ∃ (o : Option (List Rl)) (w' : gk_Wd), mkG od (G, c) o ∧ gk_Sh rr w' ∧ Fr [6, 13] [(5, 1), (12, 1), (11, 2)] w w' ∧ (∀ K, o = some K → RS w' 5 K ∧ srt K) ∧ gk_W none (d + 5) 108 45 [some (.ref 12), some (.ref 6), some (.int X), some (.int (Int32.ofNat 0))] [] w (.inl (some (.int (bI o.isSome)))) w' := by
  obtain ⟨r, w3, ⟨s3, f3, o, ho, hr, hK⟩, g3⟩ := up_exit (α := List Rl × Nat) (d := d + 5) (mi := 108) (pc := 45) 16 (fun k _ => [some (.ref 12), some (.ref (5 + 1)), some (.int X), some (.int (Int32.ofNat k))])
    (fun k p w3 => gk_Sh rr w3 ∧ Fr [6, 13] [(5, 1), (12, 1), (11, 2)] w w3 ∧ RS w3 5 p.1 ∧ srt p.1 ∧ w_i w3 11 2 = Int32.ofNat p.2 ∧ p.2 ≤ 300 ∧ ∀ o, chR od ((List.range 16).drop k) p o → chR od (List.range 16) (G, c) o)
    (fun r w' => gk_Sh rr w' ∧ Fr [6, 13] [(5, 1), (12, 1), (11, 2)] w w' ∧ ∃ o, mkG od (G, c) o ∧ r = .inl (some (.int (bI o.isSome))) ∧ ∀ K, o = some K → RS w' 5 K ∧ srt K)
    (fun k p w3 hk hI => by
      obtain ⟨s3, f3, R3, t3, c3, l3, ch3⟩ := hI
      rw [rg_s ⟨k, hk⟩] at ch3
      have ex : f_36 X (Int32.ofNat k) = 0 ↔ od k = false := by rw [f_36_0 X (by omega), hX k hk]
      cases hod : od k with
      | false =>
        left
        refine ⟨p, w3, ⟨s3, f3, R3, t3, c3, l3, fun o h => ch3 o ⟨some p, ?_, h⟩⟩, fun r w' h => sg_108_45 (d := d + 4) s3 rs_5 _ _ ⟨fun q => absurd q (n16 hk), fun _ => ⟨fun _ => by rw [i_s]; exact h, fun q => absurd (ex.mpr hod) q⟩⟩⟩
        unfold stR; rw [if_neg (by simp only [hod]; decide)]
      | true =>
        have nx : ¬ f_36 X (Int32.ofNat k) = 0 := by rw [ex, hod]; decide
        obtain ⟨w4, e4, s4, f4, k4⟩ := E110 (d := d) hk s3 R3 t3 c3 l3
        cases hi : itO (fstI (elB k)) (301 - p.2) p.1 p.2 with
        | none =>
          rw [hi] at e4
          right
          refine ⟨_, w4, ⟨s4, Fr_trans f3 f4, none, ⟨none, ch3 none ⟨none, ?_, rfl⟩, rfl⟩, rfl, fun K e => by cases e⟩, sg_108_45 (d := d + 4) s3 rs_5 _ _ ⟨fun q => absurd q (n16 hk), fun _ => ⟨fun q => absurd q nx, fun _ => ⟨0, w4, e4, s4, fun _ => ⟨rfl, rfl⟩, fun q => absurd rfl q⟩⟩⟩⟩
          unfold stR; rw [if_pos hod, hi]
        | some q =>
          rw [hi] at e4
          obtain ⟨R4, t4, c4, l4⟩ := k4 q.1 q.2 hi
          obtain ⟨o5, w5, h5, e5, s5, f5, k5⟩ := E114 (d := d) s4 R4 t4 hk
          have st5 : stR od k p (o5.map fun K => (K, q.2)) := by
            unfold stR; rw [if_pos hod, hi]; exact ⟨o5, h5, rfl⟩
          cases o5 with
          | none =>
            right
            exact ⟨_, w5, ⟨s5, Fr_trans f3 (Fr_trans f4 (Fr_mono f5 (by simp) (by simp))), none, ⟨none, ch3 none ⟨none, st5, rfl⟩, rfl⟩, rfl, fun K e => by cases e⟩, sg_108_45 (d := d + 4) s3 rs_5 _ _ ⟨fun q => absurd q (n16 hk), fun _ => ⟨fun q => absurd q nx, fun _ => ⟨1, w4, e4, s4, fun q => absurd q (by decide), fun _ => ⟨0, w5, e5, s5, fun q => absurd rfl q, fun _ => ⟨rfl, rfl⟩⟩⟩⟩⟩⟩
          | some K =>
            obtain ⟨R5, t5⟩ := k5 K rfl
            left
            exact ⟨(K, q.2), w5, ⟨s5, Fr_trans f3 (Fr_trans f4 (Fr_mono f5 (by simp) (by simp))), R5, t5, by rw [Fr_i f5 (by decide)]; exact c4, l4, fun o h => ch3 o ⟨some (K, q.2), st5, h⟩⟩, fun r w' h => sg_108_45 (d := d + 4) s3 rs_5 _ _ ⟨fun q => absurd q (n16 hk), fun _ => ⟨fun q => absurd q nx, fun _ => ⟨1, w4, e4, s4, fun q => absurd q (by decide), fun _ => ⟨1, w5, e5, s5, fun _ => by rw [i_s]; exact h, fun q => absurd q (by decide)⟩⟩⟩⟩⟩)
    (fun p w3 hI => by
      obtain ⟨s3, f3, R3, t3, c3, l3, ch3⟩ := hI
      have h1 := ch3 (some p) rfl
      obtain ⟨w4, e4, s4, f4, k4⟩ := E120 (d := d) hX s3 R3 t3 c3 l3
      cases hi : itO (nxI od) (301 - p.2) p.1 p.2 with
      | none =>
        rw [hi] at e4
        refine ⟨_, w4, ⟨s4, Fr_trans f3 f4, none, ⟨some p, h1, ?_⟩, rfl, fun K e => by cases e⟩, sg_108_45 (d := d + 4) s3 rs_5 _ _ ⟨fun _ => ⟨0, w4, e4, s4, fun _ => ⟨rfl, rfl⟩, fun q => absurd rfl q⟩, fun q => absurd y16 q⟩⟩
        simp only [hi]
      | some t =>
        rw [hi] at e4
        obtain ⟨R4, t4, -, -⟩ := k4 t.1 t.2 hi
        obtain ⟨w5, e5, s5, f5, k5⟩ := E122 (d := d) s4 R4 t4
        have hm : mkG od (G, c) (nmC lts t.1) := ⟨some p, h1, by simp only [hi]⟩
        cases hn : nmC lts t.1 with
        | none =>
          rw [hn] at e5 hm
          exact ⟨_, w5, ⟨s5, Fr_trans f3 (Fr_trans f4 (Fr_mono f5 (by simp) (by simp))), none, hm, rfl, fun K e => by cases e⟩, sg_108_45 (d := d + 4) s3 rs_5 _ _ ⟨fun _ => ⟨1, w4, e4, s4, fun q => absurd q (by decide), fun _ => ⟨0, w5, e5, s5, fun _ => ⟨rfl, rfl⟩, fun q => absurd rfl q⟩⟩, fun q => absurd y16 q⟩⟩
        | some K =>
          rw [hn] at e5 hm
          exact ⟨_, w5, ⟨s5, Fr_trans f3 (Fr_trans f4 (Fr_mono f5 (by simp) (by simp))), some K, hm, rfl, fun K' e => by cases e; exact k5 K hn⟩, sg_108_45 (d := d + 4) s3 rs_5 _ _ ⟨fun _ => ⟨1, w4, e4, s4, fun q => absurd q (by decide), fun _ => ⟨1, w5, e5, s5, fun q => absurd q (by decide), fun _ => ⟨rfl, rfl⟩⟩⟩, fun q => absurd y16 q⟩⟩)
    16 0 (G, c) w (by omega) ⟨hS, Fr_refl, hR, hs, hc, h3, fun o h => h⟩
  subst hr
  exact ⟨o, w3, ho, s3, f3, hK, g3⟩
theorem lsb_lhs {G : List Rl} (h : ∀ r ∈ G, okR r) (v : Nat) : bt (lsb G 0) v = lhs G v := by
  rw [Bool.eq_iff_iff, lsb_bt h]
  unfold lhs
  rw [List.any_eq_true]
  simp [bt_zero]
/-- make -/
theorem E108 (hS : gk_Sh rr w) (hR : RS w 5 G) (hs : srt G) : ∃ (o : Option (List Rl)) (w' : gk_Wd), greR G o ∧ gk_E (d + 5) 108 [.ref 12, .ref 6] w (.inl (some (.int (bI o.isSome)))) w' ∧ gk_Sh rr w' ∧ Fr [6, 9, 10, 13] [(5, 1), (8, 1), (12, 1), (11, 2)] w w' ∧ ∀ K, o = some K → RS w' 5 K ∧ srt K := by
  have s0 := sh_si hS ly_11 (k := 2) rfl 0
  have f0 : Fr [] [(11, 2)] w (w_si w 11 2 0) := Fr_si (by decide) _
  have c0 : w_i (w_si w 11 2 0) 11 2 = Int32.ofNat 0 := w_i_same hS ly_11 rfl
  obtain ⟨o1, w1, h1, e1, s1, f1, k1⟩ := E97 (d := d) s0 rs_5 (RS_Fr hR f0 (by decide) (by decide)) hs
  cases o1 with
  | none => exact ⟨none, w1, ⟨none, h1, rfl⟩, gk_E_i rfl rfl (sg_108_0 (d := d + 4) hS rs_5 ⟨0, w1, e1, s1, fun _ => ⟨rfl, rfl⟩, fun q => absurd rfl q⟩), s1, Fr_trans (Fr_mono f0 (by simp) (by simp)) (Fr_mono f1 (by simp) (by simp)), fun K e => by cases e⟩
  | some G1 =>
    obtain ⟨R1, t1⟩ := k1 G1 rfl
    obtain ⟨o2, w2, h2, e2, s2, f2, k2⟩ := E102 (d := d + 1) s1 R1 t1
    have f02 : Fr [6, 9, 10, 13] [(5, 1), (8, 1), (12, 1), (11, 2)] w w2 := Fr_trans (Fr_mono f0 (by simp) (by simp)) (Fr_trans (Fr_mono f1 (by simp) (by simp)) (Fr_mono f2 (by simp) (by simp)))
    cases o2 with
    | none => exact ⟨none, w2, ⟨some G1, h1, none, h2, rfl⟩, gk_E_i rfl rfl (sg_108_0 (d := d + 4) hS rs_5 ⟨1, w1, e1, s1, fun q => absurd q (by decide), fun _ => ⟨0, w2, e2, s2, fun q => absurd rfl q, fun _ => ⟨rfl, rfl⟩⟩⟩), s2, f02, fun K e => by cases e⟩
    | some G2 =>
      obtain ⟨R2, t2⟩ := k2 G2 rfl
      obtain ⟨G3, w3, h3, e3, s3, f3, R3⟩ := E30 (d := d) s2 rs_5 R2
      have t3 : srt G3 := t2.sublist (isU_sub h3)
      have c3 : w_i w3 11 2 = Int32.ofNat 0 := by rw [Fr_i f3 (by decide), Fr_i f2 (by decide), Fr_i f1 (by decide), c0]
      obtain ⟨o4, w4, h4, s4, f4, k4, g4⟩ := E108_l (d := d) s3 (fun v _ => lsb_lhs R3.2.2.1 v) R3 t3 c3 (by omega)
      refine ⟨o4, w4, ⟨some G1, h1, some G2, h2, G3, h3, h4⟩, gk_E_i rfl rfl (sg_108_0 (d := d + 4) hS rs_5 ⟨1, w1, e1, s1, fun q => absurd q (by decide), fun _ => ⟨1, w2, e2, s2, fun _ => ⟨_, w3, e3, s3, lsb G3 0, E109 (d := d + 3) s3 rs_5 R3, g4⟩, fun q => absurd q (by decide)⟩⟩), s4, Fr_trans f02 (Fr_trans (Fr_mono f3 (by simp) (by simp)) (Fr_mono f4 (by simp) (by simp))), k4⟩
end MK
