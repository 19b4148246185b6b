/-! part 46: what is reached over others: close of the class -/
def unB (r : Rl) : Bool := decide (r.2.length = 1 ∧ ∀ x ∈ r.2, x < 16)
theorem unB_at {r : Rl} (h : r.2.length = 1) : unB r = true ↔ r.2[0] < 16 := by
  obtain ⟨l, s⟩ := r
  match s, h with
  | [x], _ => simp [unB]
theorem f_40_pk {r : Rl} (h : okR r) : f_40 (pk r) = 0 ↔ unB r = false := by
  have h10 := h.2.1
  have e1 : f_24 (pk r) = 1 ↔ r.2.length = 1 := by rw [f_24_pk h]; exact i_eq (b := 1) (by omega) (by omega)
  unfold f_40
  by_cases h1 : r.2.length = 1
  · have hs := h.2.2 _ (List.getElem_mem (show 0 < r.2.length by omega))
    rw [if_neg (fun q => q (e1.mpr h1)), show (1 : Int32) = Int32.ofNat (0 + 1) from rfl, f_26_pk h (show 0 < r.2.length by omega)]
    by_cases h16 : r.2[0] < 16
    · rw [if_neg (by rw [f_28_0 (by omega)]; omega), (unB_at h1).mpr h16]
      exact ⟨fun q => absurd q (by decide), fun q => by cases q⟩
    · rw [if_pos (by rw [f_28_0 (by omega)]; omega)]
      refine ⟨fun _ => ?_, fun _ => rfl⟩
      rcases hb : unB r with _ | _
      · rfl
      · exact absurd ((unB_at h1).mp hb) h16
  · rw [if_pos (fun q => h1 (e1.mp q))]
    refine ⟨fun _ => decide_eq_false fun q => h1 q.1, fun _ => rfl⟩
/-- the least relation that holds of each with itself, takes in M and goes on over others -/
def clT (M T : Nat → Nat → Bool) : Prop := (∀ i, i < 16 → T i i = true) ∧ (∀ i j, i < 16 → M i j = true → T i j = true) ∧ ∀ i j k, i < 16 → j < 16 → T i j = true → T j k = true → T i k = true
def isT (M T : Nat → Nat → Bool) : Prop := clT M T ∧ ∀ T', clT M T' → ∀ i j, i < 16 → T i j = true → T' i j = true
theorem isT_uniq {M T T' : Nat → Nat → Bool} (h : isT M T) (h' : isT M T') {i : Nat} (hi : i < 16) (j : Nat) : T i j = T' i j := by
  rcases hx : T i j with _ | _ <;> rcases hy : T' i j with _ | _ <;> first | rfl | exact absurd (h.2 T' h'.1 i j hi hx) (by rw [hy]; decide) | exact absurd (h'.2 T h.1 i j hi hy) (by rw [hx]; decide)
/-- a row of bits for each variable -/
def RW (w : gk_Wd) (q : Nat) (M : Nat → Nat → Bool) : Prop := ∀ i, i < 16 → ∀ j, bt ((w_a w q).getD i 0) j = M i j
section CL
variable {d : Nat} {rr : List gk_S} {w : gk_Wd} {q : Nat} {M : Nat → Nat → Bool}
theorem RW_set (hS : gk_Sh rr w) (hq : gp_lay[q]? = some (.inr (.inl (0, 16)))) (h : RW w q M) {i : Nat} (hi : i < 16) (x : Int32) : RW (w_sa w q ((w_a w q).set i x)) q (fun i' j => if i' = i then bt x j else M i' j) := by
  have hl := (w_int hS hq).2
  intro i' hi' j
  show bt _ j = if i' = i then bt x j else M i' j
  rw [w_a_same hS hq, getD_set32 _ (by omega)]
  by_cases e : i' = i
  · rw [if_pos e, if_pos e]
  · rw [if_neg e, if_neg e]; exact h i' hi' j
theorem RW_congr {w' : gk_Wd} (h : RW w q M) (e : w_a w' q = w_a w q) : RW w' q M := fun i hi j => by rw [e]; exact h i hi j
theorem RW_ext {M' : Nat → Nat → Bool} (h : RW w q M) (e : ∀ i, i < 16 → ∀ j, M i j = M' i j) : RW w q M' := fun i hi j => by rw [h i hi j, e i hi j]
theorem o16 {k : Nat} (h : k < 16) : gk_out (Int32.ofNat k) 16 = false := o_ok h (by omega)
theorem n16 {k : Nat} (h : k < 16) : ¬ (16 : Int32) ≤ Int32.ofNat k := fun q => absurd ((i_le (a := 16) (by omega) (by omega)).mp q) (by omega)
theorem y16 : (16 : Int32) ≤ Int32.ofNat 16 := by decide
theorem E46_a (hq : gp_lay[q]? = some (.inr (.inl (0, 16)))) (hS : gk_Sh rr w) (h : RW w q M) : ∃ w1, gk_Sh rr w1 ∧ Fr [q] [] w w1 ∧ RW w1 q (fun i j => M i j || decide (i = j)) ∧ Go (d + 1) 46 2 [some (.ref (q + 1)), some (.int (Int32.ofNat 0)), none] w 2 [some (.ref (q + 1)), some (.int (Int32.ofNat 16)), none] w1 := by
  obtain ⟨-, w1, ⟨s1, f1, h1⟩, g1⟩ := up_loop (α := Unit) (d := d + 1) (mi := 46) (pc := 2) 16 (fun k _ => [some (.ref (q + 1)), some (.int (Int32.ofNat k)), none])
    (fun k _ w1 => gk_Sh rr w1 ∧ Fr [q] [] w w1 ∧ RW w1 q (fun i j => M i j || decide (i < k ∧ i = j)))
    (fun k _ w1 hk hI => by
      obtain ⟨s1, f1, h1⟩ := hI
      refine ⟨(), _, ⟨sh_as s1 hq k ((w_a w1 q).getD k 0 ||| ((1 : Int32) <<< (Int32.ofNat k &&& 31))), Fr_trans f1 (Fr_sa (by simp) _), RW_ext (RW_set s1 hq h1 hk _) fun i hi j => ?_⟩, fun r w' g => sg_46_2 s1 hq _ ⟨fun q => absurd q (n16 hk), fun _ => ⟨o16 hk, o16 hk, ?_⟩⟩⟩
      · by_cases e : i = k
        · subst e
          rw [if_pos rfl, bt_or, bt_pow (by omega), h1 i hk j]
          by_cases e2 : i = j
          · subst e2; simp
          · simp [e2, Ne.symm e2]
        · rw [if_neg e]
          congr 1
          have : (i < k ∧ i = j) ↔ (i < k + 1 ∧ i = j) := ⟨fun q => ⟨by omega, q.2⟩, fun q => ⟨by omega, q.2⟩⟩
          simp only [this]
      · rw [i_nat (by omega), i_s]; exact g) 16 0 () w (by omega) ⟨hS, Fr_refl, RW_ext h fun i hi j => by simp⟩
  refine ⟨w1, s1, f1, RW_ext h1 fun i hi j => ?_, g1⟩
  simp [hi]
theorem E46_i (hq : gp_lay[q]? = some (.inr (.inl (0, 16)))) (hS : gk_Sh rr w) (h : RW w q M) {m : Nat} (hm : m < 16) : ∃ w1, gk_Sh rr w1 ∧ Fr [q] [] w w1 ∧ RW w1 q (fun i j => M i j || (M i m && M m j)) ∧ Go (d + 1) 46 25 [some (.ref (q + 1)), some (.int (Int32.ofNat m)), none] w 25 [some (.ref (q + 1)), some (.int (Int32.ofNat (m + 1))), none] w1 := by
  obtain ⟨-, w1, ⟨s1, f1, h1⟩, g1⟩ := up_loop (α := Unit) (d := d + 1) (mi := 46) (pc := 33) 16 (fun k _ => [some (.ref (q + 1)), some (.int (Int32.ofNat m)), some (.int (Int32.ofNat k))])
    (fun k _ w1 => gk_Sh rr w1 ∧ Fr [q] [] w w1 ∧ RW w1 q (fun i j => M i j || (decide (i < k) && (M i m && M m j))))
    (fun k _ w1 hk hI => by
      obtain ⟨s1, f1, h1⟩ := hI
      have hkm : bt ((w_a w1 q).getD (Int32.ofNat k).toNatClampNeg 0) m = M k m := by
        rw [i_nat (by omega), h1 k hk m]; simp
      have hmj : ∀ j, bt ((w_a w1 q).getD m 0) j = M m j := fun j => by
        rw [h1 m hm j]
        cases hmm : M m j <;> simp [hmm]
      cases hb : M k m with
      | false =>
        refine ⟨(), w1, ⟨s1, f1, RW_ext h1 fun i hi j => ?_⟩, fun r w' g => sg_46_33 s1 hq _ _ ⟨fun q => absurd q (n16 hk), fun _ => ⟨o16 hk, fun _ => by rw [i_s]; exact g, fun q => ?_⟩⟩⟩
        · by_cases e : i = k
          · subst e; simp [hb]
          · have : (i < k) ↔ (i < k + 1) := by omega
            simp only [this]
        · rw [f_36_0 _ (by omega), hkm] at q
          exact absurd hb q
      | true =>
        refine ⟨(), _, ⟨sh_as s1 hq k ((w_a w1 q).getD k 0 ||| (w_a w1 q).getD m 0), Fr_trans f1 (Fr_sa (by simp) _), RW_ext (RW_set s1 hq h1 hk _) fun i hi j => ?_⟩, fun r w' g => sg_46_33 s1 hq _ _ ⟨fun q => absurd q (n16 hk), fun _ => ⟨o16 hk, fun q => ?_, fun _ => ⟨o16 hk, o16 hm, o16 hk, ?_⟩⟩⟩⟩
        · by_cases e : i = k
          · subst e
            rw [if_pos rfl, bt_or, h1 i hk j, hmj]
            simp [hb]
          · rw [if_neg e]
            have : (i < k) ↔ (i < k + 1) := by omega
            simp only [this]
        · rw [f_36_0 _ (by omega), hkm, hb] at q
          cases q
        · rw [i_nat (by omega), i_nat (by omega), i_s]; exact g) 16 0 () w (by omega) ⟨hS, Fr_refl, RW_ext h fun i hi j => by simp⟩
  refine ⟨w1, s1, f1, RW_ext h1 fun i hi j => ?_, fun r w' g => sg_46_25 hS hq _ ⟨fun q => absurd q (n16 hm), fun _ => g1 r w' (sg_46_33 s1 hq _ _ ⟨fun _ => by rw [i_s]; exact g, fun q => absurd y16 q⟩)⟩⟩
  simp [hi]
/-- close -/
theorem E46 (hq : gp_lay[q]? = some (.inr (.inl (0, 16)))) (hS : gk_Sh rr w) (h : RW w q M) : ∃ (T : Nat → Nat → Bool) (w' : gk_Wd), isT M T ∧ gk_E (d + 1) 46 [.ref (q + 1)] w (.inl none) w' ∧ gk_Sh rr w' ∧ Fr [q] [] w w' ∧ RW w' q T := by
  obtain ⟨w1, s1, f1, h1, g1⟩ := E46_a (d := d) hq hS h
  obtain ⟨T, w2, ⟨s2, f2, h2, c1, c2, c3⟩, g2⟩ := up_loop (α := Nat → Nat → Bool) (d := d + 1) (mi := 46) (pc := 25) 16 (fun k _ => [some (.ref (q + 1)), some (.int (Int32.ofNat k)), none])
    (fun m T w2 => gk_Sh rr w2 ∧ Fr [q] [] w1 w2 ∧ RW w2 q T ∧ (∀ i j, i < 16 → (M i j || decide (i = j)) = true → T i j = true) ∧ (∀ i j k, i < 16 → k < m → T i k = true → T k j = true → T i j = true) ∧ ∀ T', clT M T' → ∀ i j, i < 16 → T i j = true → T' i j = true)
    (fun m T w2 hm hI => by
      obtain ⟨s2, f2, h2, c1, c2, c3⟩ := hI
      obtain ⟨w3, s3, f3, h3, g3⟩ := E46_i (d := d) hq s2 h2 hm
      refine ⟨_, w3, ⟨s3, Fr_trans f2 f3, h3, fun i j hi h => by rw [c1 i j hi h]; rfl, fun i j k hi hk q1 q2 => ?_, fun T' hT i j hi q1 => ?_⟩, g3⟩
      · simp only [Bool.or_eq_true, Bool.and_eq_true] at q1 q2 ⊢
        by_cases hkm : k = m
        · subst hkm
          have p1 : T i k = true := by rcases q1 with q1 | q1; · exact q1
                                       · exact q1.1
          have p2 : T k j = true := by rcases q2 with q2 | q2; · exact q2
                                       · exact q2.2
          exact Or.inr ⟨p1, p2⟩
        · rcases q1 with q1 | ⟨q1, q1'⟩ <;> rcases q2 with q2 | ⟨q2, q2'⟩
          · exact Or.inl (c2 i j k hi (by omega) q1 q2)
          · exact Or.inr ⟨c2 i m k hi (by omega) q1 q2, q2'⟩
          · exact Or.inr ⟨q1, c2 m j k hm (by omega) q1' q2⟩
          · exact Or.inr ⟨q1, q2'⟩
      · simp only [Bool.or_eq_true, Bool.and_eq_true] at q1
        rcases q1 with q1 | ⟨q1, q2⟩
        · exact c3 T' hT i j hi q1
        · exact hT.2.2 i m j hi hm (c3 T' hT i m hi q1) (c3 T' hT m j hm q2)) 16 0 (fun i j => M i j || decide (i = j)) w1 (by omega) ⟨s1, Fr_refl, h1, fun _ _ _ h => h, fun i j k hi hk => by omega, fun T' hT i j hi q1 => by
      simp only [Bool.or_eq_true, decide_eq_true_eq] at q1
      rcases q1 with q1 | rfl
      · exact hT.2.1 i j hi q1
      · exact hT.1 i hi⟩
  refine ⟨T, w2, ⟨⟨fun i hi => c1 i i hi (by simp), fun i j hi h => c1 i j hi (by simp [h]), fun i j k hi hj q1 q2 => c2 i k j hi hj q1 q2⟩, c3⟩, gk_E_i rfl rfl (sg_46_0 hS hq (g1 _ _ (sg_46_2 s1 hq _ ⟨fun _ => g2 _ _ (sg_46_25 s2 hq _ ⟨fun _ => ⟨rfl, rfl⟩, fun q => absurd y16 q⟩), fun q => absurd y16 q⟩))), s2, Fr_trans f1 f2, h2⟩
end CL
/-- the relation 'a rule of i that p holds of has j' -/
def eM (p : Rl → Bool) (G : List Rl) (i j : Nat) : Bool := G.any fun r => p r && (decide (r.1 = i) && decide (j < 16 ∧ j ∈ r.2))
theorem eM_snoc (p : Rl → Bool) {G : List Rl} {k : Nat} (hk : k < G.length) (i j : Nat) : eM p (G.take (k + 1)) i j = (eM p (G.take k) i j || (p G[k] && (decide (G[k].1 = i) && decide (j < 16 ∧ j ∈ G[k].2)))) := by
  unfold eM
  rw [List.take_succ_eq_append_getElem hk, List.any_append]
  simp
