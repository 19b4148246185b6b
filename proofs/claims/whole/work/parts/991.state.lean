/-! part 71: the state of the desk and of the reference; one turn of the law -/
theorem nn {x : Int32} (h : ¬ x < 0) : ∃ k : Nat, k < 2147483648 ∧ x = Int32.ofNat k := by
  have h1 : (0 : Int) ≤ x.toInt := by
    have := mt Int32.lt_iff_toInt_lt.mpr h
    simp at this
    exact this
  have h2 : x.toInt < 2147483648 := Int32.toInt_lt x
  refine ⟨x.toInt.toNat, by omega, ?_⟩
  apply Int32.toInt_inj.mp
  rw [Int32.toInt_ofNat_of_lt (by omega)]
  omega
/-- a row of numbers and how many of them count -/
def LQ (w : gk_Wd) (c f q n : Nat) (D : List Int32) : Prop := w_i w c f = Int32.ofNat D.length ∧ D.length ≤ n ∧ ∀ (k : Nat) (x : Int32), D[k]? = some x → (w_a w q).getD k 0 = x
theorem LQ_Fr {w w' : gk_Wd} {c f q n : Nat} {D : List Int32} (h : LQ w c f q n D) {A : List Nat} {F : List (Nat × Nat)} (fr : Fr A F w w') (h1 : q ∉ A) (h2 : (c, f) ∉ F) : LQ w' c f q n D := ⟨by rw [Fr_i fr h2]; exact h.1, h.2.1, by rw [Fr_a fr h1]; exact h.2.2⟩
theorem LQ_nil {w : gk_Wd} {c f q n : Nat} (h : w_i w c f = 0) : LQ w c f q n [] := ⟨h, Nat.zero_le _, by simp⟩
theorem LQ_push {rr : List gk_S} {w : gk_Wd} {c f q n t ci : Nat} {ks : List Nat} {D : List Int32} (hS : gk_Sh rr w) (hc : gp_lay[c]? = some (.inl (ci, ks))) (hk : ks[f]? = some 0) (hq : gp_lay[q]? = some (.inr (.inl (t, n)))) (h : LQ w c f q n D) (hl : D.length < n) (hn : n < 2147483648) (x : Int32) :
    LQ (w_si (w_sa w q ((w_a w q).set (w_i w c f).toNatClampNeg x)) c f ((w_i (w_sa w q ((w_a w q).set (w_i w c f).toNatClampNeg x)) c f) + 1)) c f q n (D ++ [x]) := by
  have hlen : (w_a w q).length = n := (w_int hS hq).2
  refine ⟨?_, by simp; omega, fun k y hy => ?_⟩
  · rw [w_i_same (sh_as hS hq _ _) hc hk, w_i_sa, h.1, i_s]; simp
  · rw [w_a_si, w_a_same hS hq, h.1, i_nat (by omega), List.getD_eq_getElem?_getD]
    by_cases hkl : k < D.length
    · rw [List.getElem?_append_left hkl] at hy
      rw [List.getElem?_set_ne (by omega), ← List.getD_eq_getElem?_getD]
      exact h.2.2 k y hy
    · have h1 : k < (D ++ [x]).length := (List.getElem?_eq_some_iff.mp hy).1
      simp at h1
      obtain rfl : k = D.length := by omega
      rw [List.getElem?_set_self (by omega)]
      simp at hy
      simp [hy]
theorem LQ_lt {w : gk_Wd} {c f q n : Nat} {D : List Int32} (h : LQ w c f q n D) (hn : n < 2147483648) {i : Nat} (hi : i < 2147483648) : Int32.ofNat i < w_i w c f ↔ i < D.length := by
  have := h.2.1
  rw [h.1, i_lt hi (by omega)]
theorem LQ_at {w : gk_Wd} {c f q n : Nat} {D : List Int32} (h : LQ w c f q n D) {i : Nat} (hi : i < D.length) (hb : i < 2147483648) : (w_a w q).getD (Int32.ofNat i).toNatClampNeg 0 = D[i] := by
  rw [i_nat hb]
  exact h.2.2 i _ (List.getElem?_eq_getElem hi)
def CA : List Nat := [2, 4, 6, 9, 10, 13, 15, 16, 18, 20, 21, 22, 23, 24, 25, 54]
def CF : List (Nat × Nat) := [(0, 8), (1, 1), (3, 1), (5, 1), (8, 1), (11, 2), (12, 1), (14, 2), (19, 1), (19, 6), (19, 8)]
def NA : List Nat := [27, 28, 29, 30, 31, 32, 33, 34, 35, 36, 37, 38, 39, 40, 41, 42, 43, 44, 45, 46, 47, 48, 49, 50, 51, 52, 53]
def NF : List (Nat × Nat) := [(26, 0), (26, 1), (26, 3), (26, 4), (26, 8), (26, 12), (26, 14), (26, 15), (26, 24), (26, 28), (26, 30), (26, 32)]
def CV (w : gk_Wd) (G : List Rl) (D : List Int32) (fa : Int32) (wd : List Nat) (S : List Int32) : Prop := RS w 3 G ∧ srt G ∧ LQ w 1 1 2 9 D ∧ w_i w 0 8 = fa ∧ WC w wd ∧ LQ w 19 6 24 10 S
def MV (w : gk_Wd) (G : List Rl) (D : List Int32) (fa : Int32) (wd : List Nat) (S : List Int32) : Prop := RM w 4 28 G ∧ LQ w 26 1 27 9 D ∧ w_i w 26 3 = fa ∧ WM w wd ∧ LQ w 26 28 46 10 S
section ST
variable {rr : List gk_S} {w w' : gk_Wd} {G : List Rl} {D S : List Int32} {fa : Int32} {wd : List Nat} {A : List Nat} {F : List (Nat × Nat)}
theorem CV_Fr (h : CV w G D fa wd S) (f : Fr A F w w') (hA : 2 ∉ A ∧ 4 ∉ A ∧ 20 ∉ A ∧ 24 ∉ A) (hF : (3, 1) ∉ F ∧ (1, 1) ∉ F ∧ (0, 8) ∉ F ∧ (19, 1) ∉ F ∧ (19, 6) ∉ F) : CV w' G D fa wd S :=
  ⟨RS_Fr h.1 f hA.2.1 hF.1, h.2.1, LQ_Fr h.2.2.1 f hA.1 hF.2.1, by rw [Fr_i f hF.2.2.1]; exact h.2.2.2.1, WC_Fr h.2.2.2.2.1 f hA.2.2.1 hF.2.2.2.1, LQ_Fr h.2.2.2.2.2 f hA.2.2.2 hF.2.2.2.2⟩
theorem MV_Fr (h : MV w G D fa wd S) (f : Fr A F w w') (hA : 27 ∉ A ∧ (28 ∉ A ∧ 29 ∉ A ∧ 30 ∉ A) ∧ 43 ∉ A ∧ 46 ∉ A) (hF : (26, 4) ∉ F ∧ (26, 1) ∉ F ∧ (26, 3) ∉ F ∧ (26, 24) ∉ F ∧ (26, 28) ∉ F) : MV w' G D fa wd S :=
  ⟨RM_Fr h.1 f hA.2.1 hF.1, LQ_Fr h.2.1 f hA.1 hF.2.1, by rw [Fr_i f hF.2.2.1]; exact h.2.2.1, WM_Fr h.2.2.2.1 f hA.2.2.1 hF.2.2.2.1, LQ_Fr h.2.2.2.2 f hA.2.2.2 hF.2.2.2.2⟩
theorem CV_N (h : CV w G D fa wd S) (f : Fr NA NF w w') : CV w' G D fa wd S := CV_Fr h f (by decide) (by decide)
theorem MV_C (h : MV w G D fa wd S) (f : Fr CA CF w w') : MV w' G D fa wd S := MV_Fr h f (by decide) (by decide)
theorem get_app {α : Type} (l : List α) (c : α) (a : Nat) : (l ++ [c])[a]? = l[a]? ∨ (l[a]? = none ∧ (l ++ [c])[a]? = some c) := by
  by_cases h1 : a < l.length
  · exact Or.inl (List.getElem?_append_left h1)
  · by_cases h2 : a = l.length
    · subst h2; exact Or.inr ⟨List.getElem?_eq_none (Nat.le_refl _), by simp⟩
    · refine Or.inl ?_
      rw [List.getElem?_eq_none (by simp; omega), List.getElem?_eq_none (by omega)]
theorem Fr_thr (ci : Nat) : Fr A F w (w ++ [.inl (ci, [])]) := by
  refine ⟨fun a _ => ⟨?_, ?_⟩, fun a k _ => ?_⟩
  · unfold w_a
    rcases get_app w (.inl (ci, [])) a with h | ⟨h, h'⟩
    · rw [h]
    · rw [h, h']
  · unfold w_l
    rcases get_app w (.inl (ci, [])) a with h | ⟨h, h'⟩
    · rw [h]
    · rw [h, h']
  · unfold w_i
    rcases get_app w (.inl (ci, [])) a with h | ⟨h, h'⟩
    · rw [h]
    · rw [h, h']; simp
def Inv (w : gk_Wd) : Prop := ∃ (G : List Rl) (D : List Int32) (fa : Int32) (wd : List Nat) (S : List Int32), CV w G D fa wd S ∧ MV w G D fa wd S
def Ex (r1 r : List gk_S) : Prop := r1 = r ∨ ∃ ci, (ci = 9 ∨ ci = 10 ∨ ci = 11) ∧ r1 = r ++ [.inl (ci, [])]
/-- one turn of the law goes on -/
def Tn (xs : List Int32) (rr : List gk_S) (w : gk_Wd) (x4 : Int32) : Prop := ∃ (w1 : gk_Wd) (r1 : List gk_S), gk_Sh r1 w1 ∧ Inv w1 ∧ Ex r1 rr ∧ ∀ (r : gk_Res) (w' : gk_Wd), gk_W (some xs) 8 0 23 [some (.ref 0), some (.ref 1), some (.ref 27), some (.ref 55), some (.int (x4 + 3)), none, none] [] w1 r w' → gk_W (some xs) 8 0 23 [some (.ref 0), some (.ref 1), some (.ref 27), some (.ref 55), some (.int x4), none, none] [] w r w'
/-- what a call of the class does -/
def CC (mi : Nat) (as : List Value) (rr : List gk_S) (w : gk_Wd) (v : Int32) (G : List Rl) (D : List Int32) (fa : Int32) (wd : List Nat) (S : List Int32) : Prop := ∃ w1, gk_E 7 mi as w (.inl (some (.int v))) w1 ∧ gk_Sh rr w1 ∧ Fr CA CF w w1 ∧ CV w1 G D fa wd S
/-- what a call of the reference does -/
def MC (mi : Nat) (as : List Value) (rr : List gk_S) (w : gk_Wd) (v : Int32) (G : List Rl) (D : List Int32) (fa : Int32) (wd : List Nat) (S : List Int32) : Prop := ∃ w1, gk_E 7 mi as w (.inl (some (.int v))) w1 ∧ gk_Sh rr w1 ∧ Fr NA NF w w1 ∧ MV w1 G D fa wd S
theorem m0_sh (hS : gk_Sh rr w) : gk_Sh rr (w_si w 26 0 0) := sh_si hS ly_26 rfl _
theorem m0_fr : Fr NA NF w (w_si w 26 0 0) := Fr_si (by decide) _
theorem m0_mv (h : MV w G D fa wd S) : MV (w_si w 26 0 0) G D fa wd S := MV_Fr (A := []) (F := [(26, 0)]) h (Fr_si (by decide) _) (by decide) (by decide)
theorem m0_i (hS : gk_Sh rr w) : w_i (w_si w 26 0 0) 26 0 = 0 := w_i_same hS ly_26 rfl
theorem fr_c (h : Fr A F w w') (hA : ∀ a ∈ A, a ∈ CA := by decide) (hF : ∀ q ∈ F, q ∈ CF := by decide) : Fr CA CF w w' := Fr_mono h hA hF
theorem fr_n (h : Fr A F w w') (hA : ∀ a ∈ A, a ∈ NA := by decide) (hF : ∀ q ∈ F, q ∈ NF := by decide) : Fr NA NF w w' := Fr_mono h hA hF
end ST
