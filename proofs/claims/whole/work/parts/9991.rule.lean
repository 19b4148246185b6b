/-! part 81: the draft: its faulty place, the rule that it is -/
section RU
variable {xs : List Int32} {rr r1 : List gk_S} {w w' w1 w2 : gk_Wd} {G H K : List Rl} {D S : List Int32} {fa x4 : Int32} {wd : List Nat} {d : Nat}
theorem i_lit {a b : Int32} : a < b ↔ a.toInt < b.toInt := Int32.lt_iff_toInt_lt
theorem i_lit' {a b : Int32} : a ≤ b ↔ a.toInt ≤ b.toInt := Int32.le_iff_toInt_le
/-- what a character is: a variable, a letter, or neither -/
theorem syC (c : Int32) : (∃ v : Nat, v < 8 ∧ f_145 c 72 = Int32.ofNat v ∧ f_87 c = 1 ∧ f_67 c = 0 ∧ c - 65 = Int32.ofNat v) ∨ (∃ s : Nat, 16 ≤ s ∧ s < 22 ∧ f_145 c 72 = Int32.ofNat s ∧ f_87 c = 0 ∧ f_67 c = 1 ∧ f_68 c = Int32.ofNat s) ∨ (f_145 c 72 = -1 ∧ f_87 c = 0 ∧ f_67 c = 0) := by
  have z65 : (65 : Int32).toInt = 65 := by decide
  have z72 : (72 : Int32).toInt = 72 := by decide
  have z73 : (73 : Int32).toInt = 73 := by decide
  have z97 : (97 : Int32).toInt = 97 := by decide
  have z102 : (102 : Int32).toInt = 102 := by decide
  have z103 : (103 : Int32).toInt = 103 := by decide
  unfold f_145 f_87 f_67 f_68
  simp only [i_lit, i_lit', z65, z72, z73, z97, z102, z103]
  by_cases h1 : c.toInt < 65
  · refine Or.inr (Or.inr ⟨?_, ?_, ?_⟩)
    · rw [if_pos h1, if_pos (by omega)]
    · rw [if_pos h1]
    · rw [if_pos (by omega)]
  · by_cases h2 : 72 < c.toInt
    · by_cases h3 : c.toInt < 97
      · refine Or.inr (Or.inr ⟨?_, ?_, ?_⟩)
        · rw [if_neg h1, if_pos h2, if_pos h3]
        · rw [if_neg h1, if_pos (by omega)]
        · rw [if_pos h3]
      · by_cases h4 : 102 < c.toInt
        · refine Or.inr (Or.inr ⟨?_, ?_, ?_⟩)
          · rw [if_neg h1, if_pos h2, if_neg h3, if_pos h4]
          · rw [if_neg h1, if_pos (by omega)]
          · rw [if_neg h3, if_pos (by omega)]
        · obtain ⟨s, a1, a2, a3, a4⟩ := let_s (x := c) (fun q => h3 (by rw [i_lit, z97] at q; exact q)) (fun q => h4 (by rw [i_lit, z102] at q; exact q))
          refine Or.inr (Or.inl ⟨s, a1, a2, ?_, ?_, ?_, a4⟩)
          · rw [if_neg h1, if_pos h2, if_neg h3, if_neg h4]; exact a4
          · rw [if_neg h1, if_pos (by omega)]
          · rw [if_neg h3, if_neg (by omega)]
    · have hn : ¬ c < 0 := fun q => by
        rw [i_lit] at q
        have : (0 : Int32).toInt = 0 := by decide
        omega
      obtain ⟨k, hk, e⟩ := nn hn
      have hk2 : c.toInt = k := by rw [e]; exact i_int hk
      have e65 : c - 65 = Int32.ofNat (k - 65) := by rw [e, show (65 : Int32) = Int32.ofNat 65 from rfl, i_sub (by omega)]
      refine Or.inl ⟨k - 65, by omega, ?_, ?_, ?_, e65⟩
      · rw [if_neg h1, if_neg h2]; exact e65
      · rw [if_neg h1, if_neg (by omega)]
      · rw [if_pos (by omega)]
def sy (c : Int32) : Nat := (f_145 c 72).toNatClampNeg
/-- the first faulty place -/
def fpL : List Int32 → Nat → Option Nat
  | [], k => if 2 ≤ k then none else some k
  | c :: D, k => if f_86 c (Int32.ofNat k) = 0 then some k else fpL D (k + 1)
theorem fpL_none : ∀ {D : List Int32} {k : Nat}, fpL D k = none → (∀ j c, D[j]? = some c → ¬ f_86 c (Int32.ofNat (k + j)) = 0) ∧ 2 ≤ k + D.length
  | [], k, h => by
    simp only [fpL] at h
    by_cases q : 2 ≤ k
    · exact ⟨by simp, q⟩
    · rw [if_neg q] at h; cases h
  | c :: D, k, h => by
    simp only [fpL] at h
    by_cases q : f_86 c (Int32.ofNat k) = 0
    · rw [if_pos q] at h; cases h
    · rw [if_neg q] at h
      obtain ⟨h1, h2⟩ := fpL_none h
      refine ⟨fun j x hx => ?_, by simp; omega⟩
      cases j with
      | zero => simp at hx; subst hx; exact q
      | succ j =>
        rw [List.getElem?_cons_succ] at hx
        have := h1 j x hx
        rwa [show k + (j + 1) = k + 1 + j by omega]
theorem E85_l (hS : gk_Sh rr w) (hD : LQ w 1 1 2 9 D) : ∀ (m k : Nat), k + m = D.length → gk_W none (d + 2) 85 2 [some (.ref 2), some (.int (Int32.ofNat k))] [] w (.inl (some (.int (oI (fpL (D.drop k) k))))) w
  | 0, k, hk => by
    have h9 := hD.2.1
    obtain rfl : k = D.length := by omega
    have e2 : (2 : Int32) ≤ w_i w 1 1 ↔ 2 ≤ D.length := by rw [hD.1]; exact i_le (a := 2) (by omega) (by omega)
    rw [List.drop_length]
    refine sg_85_2 hS _ ⟨fun _ => ⟨fun q => ⟨?_, rfl⟩, fun q => ⟨?_, rfl⟩⟩, fun q => absurd (by rw [hD.1]; exact (i_le (by omega) (by omega)).mpr (Nat.le_refl _)) q⟩
    · rw [fpL, if_pos (e2.mp q)]; rfl
    · rw [fpL, if_neg (mt e2.mpr q), hD.1]; rfl
  | m + 1, k, hk => by
    have h9 := hD.2.1
    have hkl : k < D.length := by omega
    have ea := LQ_at hD hkl (by omega)
    rw [List.drop_eq_getElem_cons hkl, fpL]
    refine sg_85_2 hS _ ⟨fun q => absurd (by rw [hD.1] at q; exact (i_le (by omega) (by omega)).mp q) (by omega), fun _ => ⟨o_ok (by omega) (by omega), ?_⟩⟩
    rw [ea]
    refine ⟨fun q => ?_, fun q => ⟨?_, rfl⟩⟩
    · rw [if_neg q, i_s]
      exact E85_l hS hD m (k + 1) (by omega)
    · rw [if_pos q]; rfl
theorem E85 (hS : gk_Sh rr w) (hD : LQ w 1 1 2 9 D) : gk_E (d + 2) 85 [.ref 2] w (.inl (some (.int (oI (fpL D 0))))) w := gk_E_i rfl rfl (sg_85_0 hS (by
  have := E85_l (d := d) hS hD D.length 0 (by omega)
  rw [List.drop_zero] at this
  exact this))
theorem f86_0 (c : Int32) : f_86 c (Int32.ofNat 0) = 0 ↔ f_145 c 72 < 0 ∨ 16 ≤ f_145 c 72 := by
  show f_86 c 0 = 0 ↔ _
  unfold f_86
  rw [if_neg (by decide)]
  rcases syC c with ⟨v, hv, e1, e2, -, -⟩ | ⟨s, h1, h2, e1, e2, -, -⟩ | ⟨e1, e2, -⟩
  · rw [e1, e2]
    have n1 := i_neg (k := v) (by omega)
    have n2 : ¬ (16 : Int32) ≤ Int32.ofNat v := fun q => absurd ((i_le (a := 16) (by omega) (by omega)).mp q) (by omega)
    simp [n1, n2]
  · rw [e1, e2]
    have n2 : (16 : Int32) ≤ Int32.ofNat s := (i_le (a := 16) (by omega) (by omega)).mpr h1
    simp [n2]
  · rw [e1, e2]
    decide
theorem f86_1 (c : Int32) : f_86 c (Int32.ofNat 1) = 0 ↔ ¬ c = 58 := by
  show f_86 c 1 = 0 ↔ _
  unfold f_86
  rw [if_pos (by decide), if_neg (by decide)]
  by_cases q : c = 58
  · rw [if_neg (by simp [q])]; simp [q]
  · rw [if_pos q]; simp [q]
theorem f86_2 (c : Int32) {k : Nat} (hk : 2 ≤ k) (hb : k < 2147483648) : f_86 c (Int32.ofNat k) = 0 ↔ 8 ≤ k ∨ f_145 c 72 < 0 := by
  unfold f_86
  have n0 : ¬ Int32.ofNat k = 0 := fun q => absurd ((i_eq (b := 0) hb (by omega)).mp q) (by omega)
  have n1 : ¬ Int32.ofNat k = 1 := fun q => absurd ((i_eq (b := 1) hb (by omega)).mp q) (by omega)
  rw [if_pos n0, if_pos n1]
  have e8 : (8 : Int32) ≤ Int32.ofNat k ↔ 8 ≤ k := i_le (a := 8) (by omega) hb
  by_cases q : 8 ≤ k
  · rw [if_pos (e8.mpr q)]; simp [q]
  · rw [if_neg (mt e8.mp q)]
    rcases syC c with ⟨v, hv, e1, e2, e3, -⟩ | ⟨s, h1, h2, e1, e2, e3, -⟩ | ⟨e1, e2, e3⟩
    · have n1 := i_neg (k := v) (by omega)
      rw [e1, e2, e3]; simp [n1, q]
    · have n1 := i_neg (k := s) (by omega)
      rw [e1, e2, e3]; simp [n1, q]
    · rw [e1, e2, e3]; simp
theorem E144_l (hS : gk_Sh rr w) (hD : LQ w 26 1 27 9 D) : ∀ (m k : Nat), k + m = D.length → gk_W none (d + 1) 144 2 [some (.ref 27), some (.int (Int32.ofNat k)), none, none] [] w (.inl (some (.int (oI (fpL (D.drop k) k))))) w
  | 0, k, hk => by
    have h9 := hD.2.1
    obtain rfl : k = D.length := by omega
    have e2 : (2 : Int32) ≤ w_i w 26 1 ↔ 2 ≤ D.length := by rw [hD.1]; exact i_le (a := 2) (by omega) (by omega)
    rw [List.drop_length]
    refine sg_144_2 hS _ ⟨fun _ => ⟨fun q => ⟨?_, rfl⟩, fun q => ⟨?_, rfl⟩⟩, fun q => absurd (by rw [hD.1]; exact (i_le (by omega) (by omega)).mpr (Nat.le_refl _)) q⟩
    · rw [fpL, if_pos (e2.mp q)]; rfl
    · rw [fpL, if_neg (mt e2.mpr q), hD.1]; rfl
  | m + 1, k, hk => by
    have h9 := hD.2.1
    have hkl : k < D.length := by omega
    have ea := LQ_at hD hkl (by omega)
    have ih := E144_l hS hD m (k + 1) (by omega)
    have k0 : Int32.ofNat k = 0 ↔ k = 0 := i_eq (b := 0) (by omega) (by omega)
    have k1 : Int32.ofNat k = 1 ↔ k = 1 := i_eq (b := 1) (by omega) (by omega)
    have k8 : (8 : Int32) ≤ Int32.ofNat k ↔ 8 ≤ k := i_le (a := 8) (by omega) (by omega)
    have hout : gk_out (Int32.ofNat k) 9 = false := o_ok (by omega) (by omega)
    rw [List.drop_eq_getElem_cons hkl, fpL]
    have bad : f_86 D[k] (Int32.ofNat k) = 0 → (Sum.inl (some (.int (oI (if f_86 D[k] (Int32.ofNat k) = 0 then some k else fpL (D.drop (k + 1)) (k + 1))))) : gk_Res) = Sum.inl (some (.int (Int32.ofNat k))) := fun q => by rw [if_pos q]; rfl
    have good : ¬ f_86 D[k] (Int32.ofNat k) = 0 → gk_W none (d + 1) 144 2 [some (.ref 27), some (.int (Int32.ofNat k + 1)), none, none] [] w (.inl (some (.int (oI (if f_86 D[k] (Int32.ofNat k) = 0 then some k else fpL (D.drop (k + 1)) (k + 1)))))) w := fun q => by rw [if_neg q, i_s]; exact ih
    refine sg_144_2 hS _ ⟨fun q => absurd (by rw [hD.1] at q; exact (i_le (by omega) (by omega)).mp q) (by omega), fun _ => ⟨hout, ?_⟩⟩
    rw [ea]
    refine ⟨fun q0 => ⟨fun q1 => ⟨fun q8 => ⟨bad ?_, rfl⟩, fun q8 => ⟨fun q => ⟨bad ?_, rfl⟩, fun q => good ?_⟩⟩, fun q1 => ⟨hout, fun q => ⟨bad ?_, rfl⟩, fun q => good ?_⟩⟩, fun q0 => ⟨fun q => ⟨bad ?_, rfl⟩, fun q => ⟨fun q2 => ⟨bad ?_, rfl⟩, fun q2 => good ?_⟩⟩⟩
    · exact (f86_2 _ (by rw [k0] at q0; rw [k1] at q1; omega) (by omega)).mpr (Or.inl (k8.mp q8))
    · exact (f86_2 _ (by rw [k0] at q0; rw [k1] at q1; omega) (by omega)).mpr (Or.inr q)
    · rw [f86_2 _ (by rw [k0] at q0; rw [k1] at q1; omega) (by omega)]
      rintro (h | h)
      · exact q8 (k8.mpr h)
      · exact q h
    · obtain rfl := k1.mp q1
      exact (f86_1 _).mpr q
    · obtain rfl := k1.mp q1
      rw [f86_1]; exact fun h => h q
    · obtain rfl := k0.mp q0
      exact (f86_0 _).mpr (Or.inl q)
    · obtain rfl := k0.mp q0
      exact (f86_0 _).mpr (Or.inr q2)
    · obtain rfl := k0.mp q0
      rw [f86_0]
      rintro (h | h)
      · exact q h
      · exact q2 h
theorem E144 (hS : gk_Sh rr w) (hD : LQ w 26 1 27 9 D) : gk_E (d + 1) 144 [.ref 27] w (.inl (some (.int (oI (fpL D 0))))) w := gk_E_i rfl rfl (sg_144_0 hS (by
  have := E144_l (d := d) hS hD D.length 0 (by omega)
  rw [List.drop_zero] at this
  exact this))
end RU
