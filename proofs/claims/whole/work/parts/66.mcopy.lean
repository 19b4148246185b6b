/-! part 40: the reference copies its rows; written by wip/whole/mk66.py -/
section C148
variable {d : Nat} {rr : List gk_S} {G : List Rl}
theorem E148_k {i : Nat} (hi : i < 64) : ∀ (m k : Nat) (w : gk_Wd), gk_Sh rr w → k + m = 10 → ∃ w1, gk_Sh rr w1 ∧ Fr [33] [] w w1 ∧ (∀ n, (w_a w1 33).getD n 0 = if 10 * i + k ≤ n ∧ n < 10 * i + 10 then (w_a w 30).getD n 0 else (w_a w 33).getD n 0) ∧ ∀ (r : gk_Res) (w' : gk_Wd), gk_W none d 148 10 [some (.ref 27), some (.int (Int32.ofNat (i + 1))), none] [] w1 r w' → gk_W none d 148 44 [some (.ref 27), some (.int (Int32.ofNat i)), some (.int (Int32.ofNat k))] [] w r w'
  | 0, k, w, hS, hk => by
    obtain rfl : k = 10 := by omega
    refine ⟨w, hS, Fr_refl, fun n => ?_, fun r w' h => sg_148_44 hS _ _ ⟨fun _ => by rw [i_s]; exact h, fun q => absurd (show (10 : Int32) ≤ Int32.ofNat 10 by decide) q⟩⟩
    rw [if_neg (by omega)]
  | m + 1, k, w, hS, hk => by
    have hl := (w_int hS ly_33).2
    obtain ⟨w1, s1, f1, h1, g1⟩ := E148_k hi m (k + 1) _ (sh_as hS ly_33 (10 * i + k) ((w_a w 30).getD (10 * i + k) 0)) (by omega)
    refine ⟨w1, s1, Fr_trans (Fr_sa (by decide) _) f1, fun n => ?_, fun r w' h => sg_148_44 hS _ _ ⟨fun q => absurd ((i_le (a := 10) (by omega) (by omega)).mp q) (by omega), fun _ => ⟨ix_o (by omega), ix_o (by omega), ?_⟩⟩⟩
    · rw [h1 n, w_a_same hS ly_33, w_a_ne (by decide), getD_set32 _ (by omega)]
      by_cases h2 : 10 * i + (k + 1) ≤ n ∧ n < 10 * i + 10
      · rw [if_pos h2, if_pos (show 10 * i + k ≤ n ∧ n < 10 * i + 10 by omega)]
      · rw [if_neg h2]
        by_cases h3 : n = 10 * i + k
        · subst h3
          rw [if_pos rfl, if_pos (show 10 * i + k ≤ 10 * i + k ∧ 10 * i + k < 10 * i + 10 by omega)]
        · rw [if_neg h3, if_neg (show ¬ (10 * i + k ≤ n ∧ n < 10 * i + 10) by omega)]
    · rw [ix_n (by omega), i_s]; exact g1 r w' h
theorem E148_l : ∀ (n i : Nat) (w : gk_Wd), gk_Sh rr w → w_i w 26 4 = Int32.ofNat G.length → G.length ≤ 60 → (∀ r ∈ G, okR r) → (∀ (j : Nat) (r : Rl), G[j]? = some r → rowM w 28 j r) → (∀ (j : Nat) (r : Rl), j < i → G[j]? = some r → rowM w 31 j r) → i + n = G.length → ∃ w1, gk_Sh rr w1 ∧ Fr [31, 32, 33] [] w w1 ∧ (∀ (j : Nat) (r : Rl), G[j]? = some r → rowM w1 31 j r) ∧ ∀ (r : gk_Res) (w' : gk_Wd), gk_W none d 148 10 [some (.ref 27), some (.int (Int32.ofNat G.length)), none] [] w1 r w' → gk_W none d 148 10 [some (.ref 27), some (.int (Int32.ofNat i)), none] [] w r w'
  | 0, i, w, hS, hc, h60, hok, hs, hd, hi => by
    obtain rfl : i = G.length := by omega
    exact ⟨w, hS, Fr_refl, fun j r hj => hd j r (List.getElem?_eq_some_iff.mp hj).1 hj, fun _ _ h => h⟩
  | n + 1, i, w, hS, hc, h60, hok, hs, hd, hi => by
    have hil : i < G.length := by omega
    have hout : gk_out (Int32.ofNat i) 64 = false := o_ok (by omega) (by omega)
    have l0 := (w_int hS ly_31).2
    have hS1 := sh_as hS ly_31 i ((w_a w 28).getD i 0)
    have hS2 := sh_as hS1 ly_32 i ((w_a (w_sa w 31 ((w_a w 31).set i ((w_a w 28).getD i 0))) 29).getD i 0)
    have l1 := (w_int hS ly_32).2
    obtain ⟨w1, s1, f1, h1, g1⟩ := E148_k (d := d) (i := i) (by omega) 10 0 _ hS2 (by omega)
    have e0 : w_a w1 31 = (w_a w 31).set i ((w_a w 28).getD i 0) := by rw [Fr_a f1 (by decide), w_a_ne (by decide), w_a_same hS ly_31]
    have e1 : w_a w1 32 = (w_a w 32).set i ((w_a w 29).getD i 0) := by
      rw [Fr_a f1 (by decide), w_a_same hS1 ly_32, w_a_ne (by decide), w_a_ne (by decide)]
    have e2 : ∀ n, (w_a w1 33).getD n 0 = if 10 * i ≤ n ∧ n < 10 * i + 10 then (w_a w 30).getD n 0 else (w_a w 33).getD n 0 := by
      intro n
      rw [h1 n, w_a_ne (by decide), w_a_ne (by decide), w_a_ne (by decide), w_a_ne (by decide), Nat.add_zero]
    have fr : Fr [31, 32, 33] [] w w1 := Fr_trans (Fr_sa (by decide) _) (Fr_trans (Fr_sa (by decide) _) (Fr_mono f1 (by simp) (by simp)))
    obtain ⟨w2, s2, f2, h2, g2⟩ := E148_l n (i + 1) w1 s1 (by rw [Fr_i fr (by simp)]; exact hc) h60 hok (fun j r hj => by
        have := hs j r hj
        unfold rowM
        rw [Fr_a fr (by decide), Fr_a fr (by decide), Fr_a fr (by decide)]; exact this) (fun j r hji hj => by
        have hr := hok r (List.mem_of_getElem? hj)
        have h10 := hr.2.1
        by_cases hje : j = i
        · subst hje
          have := hs j r hj
          refine ⟨?_, ?_, fun k s hk => ?_⟩
          · rw [e0, getD_set32 _ (by omega), if_pos rfl]; exact this.1
          · rw [e1, getD_set32 _ (by omega), if_pos rfl]; exact this.2.1
          · have hkl := (List.getElem?_eq_some_iff.mp hk).1
            rw [e2, if_pos (by omega)]; exact this.2.2 k s hk
        · have := hd j r (by omega) hj
          refine ⟨?_, ?_, fun k s hk => ?_⟩
          · rw [e0, getD_set32 _ (by omega), if_neg hje]; exact this.1
          · rw [e1, getD_set32 _ (by omega), if_neg hje]; exact this.2.1
          · have hkl := (List.getElem?_eq_some_iff.mp hk).1
            rw [e2, if_neg (by omega)]; exact this.2.2 k s hk) (by omega)
    refine ⟨w2, s2, Fr_trans fr f2, h2, fun r w' h => sg_148_10 hS _ ⟨fun q => ?_, fun _ => ⟨hout, hout, hout, hout, ?_⟩⟩⟩
    · rw [hc] at q; exact absurd ((i_le (by omega) (by omega)).mp q) (by omega)
    · rw [i_nat (by omega)]
      exact g1 r w' (g2 r w' h)
end C148

section C167
variable {d : Nat} {rr : List gk_S} {G : List Rl}
theorem E167_k {i : Nat} (hi : i < 64) : ∀ (m k : Nat) (w : gk_Wd), gk_Sh rr w → k + m = 10 → ∃ w1, gk_Sh rr w1 ∧ Fr [50] [] w w1 ∧ (∀ n, (w_a w1 50).getD n 0 = if 10 * i + k ≤ n ∧ n < 10 * i + 10 then (w_a w 30).getD n 0 else (w_a w 50).getD n 0) ∧ ∀ (r : gk_Res) (w' : gk_Wd), gk_W none d 167 10 [some (.ref 27), some (.int (Int32.ofNat (i + 1))), none] [] w1 r w' → gk_W none d 167 44 [some (.ref 27), some (.int (Int32.ofNat i)), some (.int (Int32.ofNat k))] [] w r w'
  | 0, k, w, hS, hk => by
    obtain rfl : k = 10 := by omega
    refine ⟨w, hS, Fr_refl, fun n => ?_, fun r w' h => sg_167_44 hS _ _ ⟨fun _ => by rw [i_s]; exact h, fun q => absurd (show (10 : Int32) ≤ Int32.ofNat 10 by decide) q⟩⟩
    rw [if_neg (by omega)]
  | m + 1, k, w, hS, hk => by
    have hl := (w_int hS ly_50).2
    obtain ⟨w1, s1, f1, h1, g1⟩ := E167_k hi m (k + 1) _ (sh_as hS ly_50 (10 * i + k) ((w_a w 30).getD (10 * i + k) 0)) (by omega)
    refine ⟨w1, s1, Fr_trans (Fr_sa (by decide) _) f1, fun n => ?_, fun r w' h => sg_167_44 hS _ _ ⟨fun q => absurd ((i_le (a := 10) (by omega) (by omega)).mp q) (by omega), fun _ => ⟨ix_o (by omega), ix_o (by omega), ?_⟩⟩⟩
    · rw [h1 n, w_a_same hS ly_50, w_a_ne (by decide), getD_set32 _ (by omega)]
      by_cases h2 : 10 * i + (k + 1) ≤ n ∧ n < 10 * i + 10
      · rw [if_pos h2, if_pos (show 10 * i + k ≤ n ∧ n < 10 * i + 10 by omega)]
      · rw [if_neg h2]
        by_cases h3 : n = 10 * i + k
        · subst h3
          rw [if_pos rfl, if_pos (show 10 * i + k ≤ 10 * i + k ∧ 10 * i + k < 10 * i + 10 by omega)]
        · rw [if_neg h3, if_neg (show ¬ (10 * i + k ≤ n ∧ n < 10 * i + 10) by omega)]
    · rw [ix_n (by omega), i_s]; exact g1 r w' h
theorem E167_l : ∀ (n i : Nat) (w : gk_Wd), gk_Sh rr w → w_i w 26 4 = Int32.ofNat G.length → G.length ≤ 60 → (∀ r ∈ G, okR r) → (∀ (j : Nat) (r : Rl), G[j]? = some r → rowM w 28 j r) → (∀ (j : Nat) (r : Rl), j < i → G[j]? = some r → rowM w 48 j r) → i + n = G.length → ∃ w1, gk_Sh rr w1 ∧ Fr [48, 49, 50] [] w w1 ∧ (∀ (j : Nat) (r : Rl), G[j]? = some r → rowM w1 48 j r) ∧ ∀ (r : gk_Res) (w' : gk_Wd), gk_W none d 167 10 [some (.ref 27), some (.int (Int32.ofNat G.length)), none] [] w1 r w' → gk_W none d 167 10 [some (.ref 27), some (.int (Int32.ofNat i)), none] [] w r w'
  | 0, i, w, hS, hc, h60, hok, hs, hd, hi => by
    obtain rfl : i = G.length := by omega
    exact ⟨w, hS, Fr_refl, fun j r hj => hd j r (List.getElem?_eq_some_iff.mp hj).1 hj, fun _ _ h => h⟩
  | n + 1, i, w, hS, hc, h60, hok, hs, hd, hi => by
    have hil : i < G.length := by omega
    have hout : gk_out (Int32.ofNat i) 64 = false := o_ok (by omega) (by omega)
    have l0 := (w_int hS ly_48).2
    have hS1 := sh_as hS ly_48 i ((w_a w 28).getD i 0)
    have hS2 := sh_as hS1 ly_49 i ((w_a (w_sa w 48 ((w_a w 48).set i ((w_a w 28).getD i 0))) 29).getD i 0)
    have l1 := (w_int hS ly_49).2
    obtain ⟨w1, s1, f1, h1, g1⟩ := E167_k (d := d) (i := i) (by omega) 10 0 _ hS2 (by omega)
    have e0 : w_a w1 48 = (w_a w 48).set i ((w_a w 28).getD i 0) := by rw [Fr_a f1 (by decide), w_a_ne (by decide), w_a_same hS ly_48]
    have e1 : w_a w1 49 = (w_a w 49).set i ((w_a w 29).getD i 0) := by
      rw [Fr_a f1 (by decide), w_a_same hS1 ly_49, w_a_ne (by decide), w_a_ne (by decide)]
    have e2 : ∀ n, (w_a w1 50).getD n 0 = if 10 * i ≤ n ∧ n < 10 * i + 10 then (w_a w 30).getD n 0 else (w_a w 50).getD n 0 := by
      intro n
      rw [h1 n, w_a_ne (by decide), w_a_ne (by decide), w_a_ne (by decide), w_a_ne (by decide), Nat.add_zero]
    have fr : Fr [48, 49, 50] [] w w1 := Fr_trans (Fr_sa (by decide) _) (Fr_trans (Fr_sa (by decide) _) (Fr_mono f1 (by simp) (by simp)))
    obtain ⟨w2, s2, f2, h2, g2⟩ := E167_l n (i + 1) w1 s1 (by rw [Fr_i fr (by simp)]; exact hc) h60 hok (fun j r hj => by
        have := hs j r hj
        unfold rowM
        rw [Fr_a fr (by decide), Fr_a fr (by decide), Fr_a fr (by decide)]; exact this) (fun j r hji hj => by
        have hr := hok r (List.mem_of_getElem? hj)
        have h10 := hr.2.1
        by_cases hje : j = i
        · subst hje
          have := hs j r hj
          refine ⟨?_, ?_, fun k s hk => ?_⟩
          · rw [e0, getD_set32 _ (by omega), if_pos rfl]; exact this.1
          · rw [e1, getD_set32 _ (by omega), if_pos rfl]; exact this.2.1
          · have hkl := (List.getElem?_eq_some_iff.mp hk).1
            rw [e2, if_pos (by omega)]; exact this.2.2 k s hk
        · have := hd j r (by omega) hj
          refine ⟨?_, ?_, fun k s hk => ?_⟩
          · rw [e0, getD_set32 _ (by omega), if_neg hje]; exact this.1
          · rw [e1, getD_set32 _ (by omega), if_neg hje]; exact this.2.1
          · have hkl := (List.getElem?_eq_some_iff.mp hk).1
            rw [e2, if_neg (by omega)]; exact this.2.2 k s hk) (by omega)
    refine ⟨w2, s2, Fr_trans fr f2, h2, fun r w' h => sg_167_10 hS _ ⟨fun q => ?_, fun _ => ⟨hout, hout, hout, hout, ?_⟩⟩⟩
    · rw [hc] at q; exact absurd ((i_le (by omega) (by omega)).mp q) (by omega)
    · rw [i_nat (by omega)]
      exact g1 r w' (g2 r w' h)
end C167

section C172
variable {d : Nat} {rr : List gk_S} {G : List Rl}
theorem E172_k {i : Nat} (hi : i < 64) : ∀ (m k : Nat) (w : gk_Wd), gk_Sh rr w → k + m = 10 → ∃ w1, gk_Sh rr w1 ∧ Fr [33] [] w w1 ∧ (∀ n, (w_a w1 33).getD n 0 = if 10 * i + k ≤ n ∧ n < 10 * i + 10 then (w_a w 50).getD n 0 else (w_a w 33).getD n 0) ∧ ∀ (r : gk_Res) (w' : gk_Wd), gk_W none (d + 1) 172 10 [some (.ref 27), some (.int (Int32.ofNat (i + 1))), none] [] w1 r w' → gk_W none (d + 1) 172 44 [some (.ref 27), some (.int (Int32.ofNat i)), some (.int (Int32.ofNat k))] [] w r w'
  | 0, k, w, hS, hk => by
    obtain rfl : k = 10 := by omega
    refine ⟨w, hS, Fr_refl, fun n => ?_, fun r w' h => sg_172_44 hS _ _ ⟨fun _ => by rw [i_s]; exact h, fun q => absurd (show (10 : Int32) ≤ Int32.ofNat 10 by decide) q⟩⟩
    rw [if_neg (by omega)]
  | m + 1, k, w, hS, hk => by
    have hl := (w_int hS ly_33).2
    obtain ⟨w1, s1, f1, h1, g1⟩ := E172_k hi m (k + 1) _ (sh_as hS ly_33 (10 * i + k) ((w_a w 50).getD (10 * i + k) 0)) (by omega)
    refine ⟨w1, s1, Fr_trans (Fr_sa (by decide) _) f1, fun n => ?_, fun r w' h => sg_172_44 hS _ _ ⟨fun q => absurd ((i_le (a := 10) (by omega) (by omega)).mp q) (by omega), fun _ => ⟨ix_o (by omega), ix_o (by omega), ?_⟩⟩⟩
    · rw [h1 n, w_a_same hS ly_33, w_a_ne (by decide), getD_set32 _ (by omega)]
      by_cases h2 : 10 * i + (k + 1) ≤ n ∧ n < 10 * i + 10
      · rw [if_pos h2, if_pos (show 10 * i + k ≤ n ∧ n < 10 * i + 10 by omega)]
      · rw [if_neg h2]
        by_cases h3 : n = 10 * i + k
        · subst h3
          rw [if_pos rfl, if_pos (show 10 * i + k ≤ 10 * i + k ∧ 10 * i + k < 10 * i + 10 by omega)]
        · rw [if_neg h3, if_neg (show ¬ (10 * i + k ≤ n ∧ n < 10 * i + 10) by omega)]
    · rw [ix_n (by omega), i_s]; exact g1 r w' h
theorem E172_l : ∀ (n i : Nat) (w : gk_Wd), gk_Sh rr w → w_i w 26 32 = Int32.ofNat G.length → G.length ≤ 60 → (∀ r ∈ G, okR r) → (∀ (j : Nat) (r : Rl), G[j]? = some r → rowM w 48 j r) → (∀ (j : Nat) (r : Rl), j < i → G[j]? = some r → rowM w 31 j r) → i + n = G.length → ∃ w1, gk_Sh rr w1 ∧ Fr [31, 32, 33] [] w w1 ∧ (∀ (j : Nat) (r : Rl), G[j]? = some r → rowM w1 31 j r) ∧ ∀ (r : gk_Res) (w' : gk_Wd), gk_W none (d + 1) 172 10 [some (.ref 27), some (.int (Int32.ofNat G.length)), none] [] w1 r w' → gk_W none (d + 1) 172 10 [some (.ref 27), some (.int (Int32.ofNat i)), none] [] w r w'
  | 0, i, w, hS, hc, h60, hok, hs, hd, hi => by
    obtain rfl : i = G.length := by omega
    exact ⟨w, hS, Fr_refl, fun j r hj => hd j r (List.getElem?_eq_some_iff.mp hj).1 hj, fun _ _ h => h⟩
  | n + 1, i, w, hS, hc, h60, hok, hs, hd, hi => by
    have hil : i < G.length := by omega
    have hout : gk_out (Int32.ofNat i) 64 = false := o_ok (by omega) (by omega)
    have l0 := (w_int hS ly_31).2
    have hS1 := sh_as hS ly_31 i ((w_a w 48).getD i 0)
    have hS2 := sh_as hS1 ly_32 i ((w_a (w_sa w 31 ((w_a w 31).set i ((w_a w 48).getD i 0))) 49).getD i 0)
    have l1 := (w_int hS ly_32).2
    obtain ⟨w1, s1, f1, h1, g1⟩ := E172_k (d := d) (i := i) (by omega) 10 0 _ hS2 (by omega)
    have e0 : w_a w1 31 = (w_a w 31).set i ((w_a w 48).getD i 0) := by rw [Fr_a f1 (by decide), w_a_ne (by decide), w_a_same hS ly_31]
    have e1 : w_a w1 32 = (w_a w 32).set i ((w_a w 49).getD i 0) := by
      rw [Fr_a f1 (by decide), w_a_same hS1 ly_32, w_a_ne (by decide), w_a_ne (by decide)]
    have e2 : ∀ n, (w_a w1 33).getD n 0 = if 10 * i ≤ n ∧ n < 10 * i + 10 then (w_a w 50).getD n 0 else (w_a w 33).getD n 0 := by
      intro n
      rw [h1 n, w_a_ne (by decide), w_a_ne (by decide), w_a_ne (by decide), w_a_ne (by decide), Nat.add_zero]
    have fr : Fr [31, 32, 33] [] w w1 := Fr_trans (Fr_sa (by decide) _) (Fr_trans (Fr_sa (by decide) _) (Fr_mono f1 (by simp) (by simp)))
    obtain ⟨w2, s2, f2, h2, g2⟩ := E172_l n (i + 1) w1 s1 (by rw [Fr_i fr (by simp)]; exact hc) h60 hok (fun j r hj => by
        have := hs j r hj
        unfold rowM
        rw [Fr_a fr (by decide), Fr_a fr (by decide), Fr_a fr (by decide)]; exact this) (fun j r hji hj => by
        have hr := hok r (List.mem_of_getElem? hj)
        have h10 := hr.2.1
        by_cases hje : j = i
        · subst hje
          have := hs j r hj
          refine ⟨?_, ?_, fun k s hk => ?_⟩
          · rw [e0, getD_set32 _ (by omega), if_pos rfl]; exact this.1
          · rw [e1, getD_set32 _ (by omega), if_pos rfl]; exact this.2.1
          · have hkl := (List.getElem?_eq_some_iff.mp hk).1
            rw [e2, if_pos (by omega)]; exact this.2.2 k s hk
        · have := hd j r (by omega) hj
          refine ⟨?_, ?_, fun k s hk => ?_⟩
          · rw [e0, getD_set32 _ (by omega), if_neg hje]; exact this.1
          · rw [e1, getD_set32 _ (by omega), if_neg hje]; exact this.2.1
          · have hkl := (List.getElem?_eq_some_iff.mp hk).1
            rw [e2, if_neg (by omega)]; exact this.2.2 k s hk) (by omega)
    refine ⟨w2, s2, Fr_trans fr f2, h2, fun r w' h => sg_172_10 hS _ ⟨fun q => ?_, fun _ => ⟨hout, hout, hout, hout, ?_⟩⟩⟩
    · rw [hc] at q; exact absurd ((i_le (by omega) (by omega)).mp q) (by omega)
    · rw [i_nat (by omega)]
      exact g1 r w' (g2 r w' h)
end C172

section C174
variable {d : Nat} {rr : List gk_S} {G : List Rl}
theorem E174_k {i : Nat} (hi : i < 64) : ∀ (m k : Nat) (w : gk_Wd), gk_Sh rr w → k + m = 10 → ∃ w1, gk_Sh rr w1 ∧ Fr [30] [] w w1 ∧ (∀ n, (w_a w1 30).getD n 0 = if 10 * i + k ≤ n ∧ n < 10 * i + 10 then (w_a w 33).getD n 0 else (w_a w 30).getD n 0) ∧ ∀ (r : gk_Res) (w' : gk_Wd), gk_W none d 174 10 [some (.ref 27), some (.int (Int32.ofNat (i + 1))), none] [] w1 r w' → gk_W none d 174 44 [some (.ref 27), some (.int (Int32.ofNat i)), some (.int (Int32.ofNat k))] [] w r w'
  | 0, k, w, hS, hk => by
    obtain rfl : k = 10 := by omega
    refine ⟨w, hS, Fr_refl, fun n => ?_, fun r w' h => sg_174_44 hS _ _ ⟨fun _ => by rw [i_s]; exact h, fun q => absurd (show (10 : Int32) ≤ Int32.ofNat 10 by decide) q⟩⟩
    rw [if_neg (by omega)]
  | m + 1, k, w, hS, hk => by
    have hl := (w_int hS ly_30).2
    obtain ⟨w1, s1, f1, h1, g1⟩ := E174_k hi m (k + 1) _ (sh_as hS ly_30 (10 * i + k) ((w_a w 33).getD (10 * i + k) 0)) (by omega)
    refine ⟨w1, s1, Fr_trans (Fr_sa (by decide) _) f1, fun n => ?_, fun r w' h => sg_174_44 hS _ _ ⟨fun q => absurd ((i_le (a := 10) (by omega) (by omega)).mp q) (by omega), fun _ => ⟨ix_o (by omega), ix_o (by omega), ?_⟩⟩⟩
    · rw [h1 n, w_a_same hS ly_30, w_a_ne (by decide), getD_set32 _ (by omega)]
      by_cases h2 : 10 * i + (k + 1) ≤ n ∧ n < 10 * i + 10
      · rw [if_pos h2, if_pos (show 10 * i + k ≤ n ∧ n < 10 * i + 10 by omega)]
      · rw [if_neg h2]
        by_cases h3 : n = 10 * i + k
        · subst h3
          rw [if_pos rfl, if_pos (show 10 * i + k ≤ 10 * i + k ∧ 10 * i + k < 10 * i + 10 by omega)]
        · rw [if_neg h3, if_neg (show ¬ (10 * i + k ≤ n ∧ n < 10 * i + 10) by omega)]
    · rw [ix_n (by omega), i_s]; exact g1 r w' h
theorem E174_l : ∀ (n i : Nat) (w : gk_Wd), gk_Sh rr w → w_i w 26 4 = Int32.ofNat G.length → G.length ≤ 60 → (∀ r ∈ G, okR r) → (∀ (j : Nat) (r : Rl), G[j]? = some r → rowM w 31 j r) → (∀ (j : Nat) (r : Rl), j < i → G[j]? = some r → rowM w 28 j r) → i + n = G.length → ∃ w1, gk_Sh rr w1 ∧ Fr [28, 29, 30] [] w w1 ∧ (∀ (j : Nat) (r : Rl), G[j]? = some r → rowM w1 28 j r) ∧ ∀ (r : gk_Res) (w' : gk_Wd), gk_W none d 174 10 [some (.ref 27), some (.int (Int32.ofNat G.length)), none] [] w1 r w' → gk_W none d 174 10 [some (.ref 27), some (.int (Int32.ofNat i)), none] [] w r w'
  | 0, i, w, hS, hc, h60, hok, hs, hd, hi => by
    obtain rfl : i = G.length := by omega
    exact ⟨w, hS, Fr_refl, fun j r hj => hd j r (List.getElem?_eq_some_iff.mp hj).1 hj, fun _ _ h => h⟩
  | n + 1, i, w, hS, hc, h60, hok, hs, hd, hi => by
    have hil : i < G.length := by omega
    have hout : gk_out (Int32.ofNat i) 64 = false := o_ok (by omega) (by omega)
    have l0 := (w_int hS ly_28).2
    have hS1 := sh_as hS ly_28 i ((w_a w 31).getD i 0)
    have hS2 := sh_as hS1 ly_29 i ((w_a (w_sa w 28 ((w_a w 28).set i ((w_a w 31).getD i 0))) 32).getD i 0)
    have l1 := (w_int hS ly_29).2
    obtain ⟨w1, s1, f1, h1, g1⟩ := E174_k (d := d) (i := i) (by omega) 10 0 _ hS2 (by omega)
    have e0 : w_a w1 28 = (w_a w 28).set i ((w_a w 31).getD i 0) := by rw [Fr_a f1 (by decide), w_a_ne (by decide), w_a_same hS ly_28]
    have e1 : w_a w1 29 = (w_a w 29).set i ((w_a w 32).getD i 0) := by
      rw [Fr_a f1 (by decide), w_a_same hS1 ly_29, w_a_ne (by decide), w_a_ne (by decide)]
    have e2 : ∀ n, (w_a w1 30).getD n 0 = if 10 * i ≤ n ∧ n < 10 * i + 10 then (w_a w 33).getD n 0 else (w_a w 30).getD n 0 := by
      intro n
      rw [h1 n, w_a_ne (by decide), w_a_ne (by decide), w_a_ne (by decide), w_a_ne (by decide), Nat.add_zero]
    have fr : Fr [28, 29, 30] [] w w1 := Fr_trans (Fr_sa (by decide) _) (Fr_trans (Fr_sa (by decide) _) (Fr_mono f1 (by simp) (by simp)))
    obtain ⟨w2, s2, f2, h2, g2⟩ := E174_l n (i + 1) w1 s1 (by rw [Fr_i fr (by simp)]; exact hc) h60 hok (fun j r hj => by
        have := hs j r hj
        unfold rowM
        rw [Fr_a fr (by decide), Fr_a fr (by decide), Fr_a fr (by decide)]; exact this) (fun j r hji hj => by
        have hr := hok r (List.mem_of_getElem? hj)
        have h10 := hr.2.1
        by_cases hje : j = i
        · subst hje
          have := hs j r hj
          refine ⟨?_, ?_, fun k s hk => ?_⟩
          · rw [e0, getD_set32 _ (by omega), if_pos rfl]; exact this.1
          · rw [e1, getD_set32 _ (by omega), if_pos rfl]; exact this.2.1
          · have hkl := (List.getElem?_eq_some_iff.mp hk).1
            rw [e2, if_pos (by omega)]; exact this.2.2 k s hk
        · have := hd j r (by omega) hj
          refine ⟨?_, ?_, fun k s hk => ?_⟩
          · rw [e0, getD_set32 _ (by omega), if_neg hje]; exact this.1
          · rw [e1, getD_set32 _ (by omega), if_neg hje]; exact this.2.1
          · have hkl := (List.getElem?_eq_some_iff.mp hk).1
            rw [e2, if_neg (by omega)]; exact this.2.2 k s hk) (by omega)
    refine ⟨w2, s2, Fr_trans fr f2, h2, fun r w' h => sg_174_10 hS _ ⟨fun q => ?_, fun _ => ⟨hout, hout, hout, hout, ?_⟩⟩⟩
    · rw [hc] at q; exact absurd ((i_le (by omega) (by omega)).mp q) (by omega)
    · rw [i_nat (by omega)]
      exact g1 r w' (g2 r w' h)
end C174

section CP
variable {d : Nat} {rr : List gk_S} {w : gk_Wd} {G H : List Rl}
/-- copyOld -/
theorem E148 (hS : gk_Sh rr w) (hR : RM w 4 28 G) : ∃ w', gk_E d 148 [.ref 27] w (.inl none) w' ∧ gk_Sh rr w' ∧ Fr [31, 32, 33] [(26, 8)] w w' ∧ RM w' 8 31 G := by
  have hS1 := sh_si hS ly_26 (k := 8) rfl (w_i w 26 4)
  have h4 : w_i (w_si w 26 8 (w_i w 26 4)) 26 4 = Int32.ofNat G.length := by rw [w_i_ne (by decide)]; exact hR.1
  obtain ⟨w1, s1, f1, h1, g1⟩ := E148_l (d := d) (G := G) G.length 0 _ hS1 h4 hR.2.1 hR.2.2.1 (fun j r hj => by
    have := hR.2.2.2 j r hj
    unfold rowM
    rw [w_a_si, w_a_si, w_a_si]; exact this) (fun j r hj => by omega) (by omega)
  have h60 := hR.2.1
  refine ⟨w1, gk_E_i rfl rfl (sg_148_0 hS (g1 _ _ (sg_148_10 s1 _ ⟨fun _ => ⟨rfl, rfl⟩, fun q => ?_⟩))), s1, Fr_trans (Fr_si (by decide) _) (Fr_mono f1 (by simp) (by simp)), ⟨?_, hR.2.1, hR.2.2.1, h1⟩⟩
  · rw [Fr_i f1 (by simp), h4] at q
    exact absurd ((i_le (by omega) (by omega)).mpr (Nat.le_refl _)) q
  · rw [Fr_i f1 (by simp), w_i_same hS ly_26 rfl]; exact hR.1
/-- save -/
theorem E147 (hS : gk_Sh rr w) (hR : RM w 4 28 G) : ∃ w', gk_E (d + 1) 147 [.ref 27] w (.inl none) w' ∧ gk_Sh rr w' ∧ Fr [31, 32, 33] [(26, 8), (26, 14)] w w' ∧ RM w' 8 31 G ∧ w_i w' 26 14 = 0 := by
  obtain ⟨w1, e1, s1, f1, R1⟩ := E148 (d := d) hS hR
  refine ⟨_, gk_E_i rfl rfl (sg_147_0 hS ⟨w1, e1, s1, rfl, rfl⟩), sh_si s1 ly_26 (k := 14) rfl _, Fr_trans (Fr_mono f1 (by simp) (by simp)) (Fr_si (by decide) _), RM_congr R1 (w_i_ne (by decide)) w_a_si w_a_si w_a_si, w_i_same s1 ly_26 rfl⟩
/-- keepAll -/
theorem E167 (hS : gk_Sh rr w) (hR : RM w 4 28 G) : ∃ w', gk_E d 167 [.ref 27] w (.inl none) w' ∧ gk_Sh rr w' ∧ Fr [48, 49, 50] [(26, 32), (26, 14), (26, 15)] w w' ∧ RM w' 32 48 G ∧ w_i w' 26 14 = 0 ∧ w_i w' 26 15 = 0 := by
  have hS1 := sh_si hS ly_26 (k := 32) rfl (w_i w 26 4)
  have h4 : w_i (w_si w 26 32 (w_i w 26 4)) 26 4 = Int32.ofNat G.length := by rw [w_i_ne (by decide)]; exact hR.1
  obtain ⟨w1, s1, f1, h1, g1⟩ := E167_l (d := d) (G := G) G.length 0 _ hS1 h4 hR.2.1 hR.2.2.1 (fun j r hj => by
    have := hR.2.2.2 j r hj
    unfold rowM
    rw [w_a_si, w_a_si, w_a_si]; exact this) (fun j r hj => by omega) (by omega)
  have h60 := hR.2.1
  have s2 := sh_si s1 ly_26 (k := 14) rfl 0
  have s3 := sh_si s2 ly_26 (k := 15) rfl 0
  refine ⟨_, gk_E_i rfl rfl (sg_167_0 hS (g1 _ _ (sg_167_10 s1 _ ⟨fun _ => ⟨rfl, rfl⟩, fun q => ?_⟩))), s3, Fr_trans (Fr_si (by decide) _) (Fr_trans (Fr_mono f1 (by simp) (by simp)) (Fr_trans (Fr_si (by decide) _) (Fr_si (by decide) _))), ⟨?_, hR.2.1, hR.2.2.1, fun j r hj => ?_⟩, ?_, w_i_same s2 ly_26 rfl⟩
  · rw [Fr_i f1 (by simp), h4] at q
    exact absurd ((i_le (by omega) (by omega)).mpr (Nat.le_refl _)) q
  · rw [w_i_ne (by decide), w_i_ne (by decide), Fr_i f1 (by simp), w_i_same hS ly_26 rfl]; exact hR.1
  · have := h1 j r hj
    unfold rowM
    rw [w_a_si, w_a_si, w_a_si, w_a_si, w_a_si, w_a_si]; exact this
  · rw [w_i_ne (by decide), w_i_same s1 ly_26 rfl]
/-- restore -/
theorem E174 (hS : gk_Sh rr w) (hR : RM w 8 31 G) : ∃ w', gk_E d 174 [.ref 27] w (.inl none) w' ∧ gk_Sh rr w' ∧ Fr [28, 29, 30] [(26, 4)] w w' ∧ RM w' 4 28 G := by
  have hS1 := sh_si hS ly_26 (k := 4) rfl (w_i w 26 8)
  have h4 : w_i (w_si w 26 4 (w_i w 26 8)) 26 4 = Int32.ofNat G.length := by rw [w_i_same hS ly_26 rfl]; exact hR.1
  obtain ⟨w1, s1, f1, h1, g1⟩ := E174_l (d := d) (G := G) G.length 0 _ hS1 h4 hR.2.1 hR.2.2.1 (fun j r hj => by
    have := hR.2.2.2 j r hj
    unfold rowM
    rw [w_a_si, w_a_si, w_a_si]; exact this) (fun j r hj => by omega) (by omega)
  have h60 := hR.2.1
  refine ⟨w1, gk_E_i rfl rfl (sg_174_0 hS (g1 _ _ (sg_174_10 s1 _ ⟨fun _ => ⟨rfl, rfl⟩, fun q => ?_⟩))), s1, Fr_trans (Fr_si (by decide) _) (Fr_mono f1 (by simp) (by simp)), ⟨?_, hR.2.1, hR.2.2.1, h1⟩⟩
  · rw [Fr_i f1 (by simp), h4] at q
    exact absurd ((i_le (by omega) (by omega)).mpr (Nat.le_refl _)) q
  · rw [Fr_i f1 (by simp)]; exact h4
theorem E175_k (hS : gk_Sh rr w) (hR : RM w 4 28 G) (hH : RM w 8 31 H) {i : Nat} (hi : i < G.length) (hj : i < H.length) {r : gk_Res} {w' : gk_Wd} : ∀ (m k : Nat) (b : Bool), k + m = G[i].2.length → (b = true → G[i].2.length = H[i].2.length) → gk_W none d 175 19 [some (.ref 27), some (.int (bI (b && decide (G[i].2.drop k = H[i].2.drop k)))), some (.int (Int32.ofNat (i + 1))), none] [] w r w' → gk_W none d 175 69 [some (.ref 27), some (.int (bI b)), some (.int (Int32.ofNat i)), some (.int (Int32.ofNat k))] [] w r w'
  | m, k, false, hk, hl, h => by
    have h10 := (RM_ok hR hi).2.1
    rw [Bool.false_and] at h
    refine sg_175_69 hS _ _ _ ⟨RM_out hR hi, fun _ => by rw [i_s]; exact h, fun _ => ⟨fun _ => by rw [i_s]; exact h, fun q => absurd rfl q⟩⟩
  | 0, k, true, hk, hl, h => by
    have h10 := (RM_ok hR hi).2.1
    have := hl rfl
    rw [List.drop_eq_nil_of_le (by omega), List.drop_eq_nil_of_le (by omega)] at h
    exact sg_175_69 hS _ _ _ ⟨RM_out hR hi, fun _ => by rw [i_s]; exact h, fun q => absurd ((RM_sz hR hi (by omega)).mpr (by omega)) q⟩
  | m + 1, k, true, hk, hl, h => by
    have h10 := (RM_ok hR hi).2.1
    have hle := hl rfl
    have hkl : k < G[i].2.length := by omega
    have hkh : k < H[i].2.length := by omega
    have hs := (RM_ok hR hi).2.2 _ (List.getElem_mem hkl)
    have ht := (RM_ok hH hj).2.2 _ (List.getElem_mem hkh)
    have e1 : (w_a w 30).getD (10 * Int32.ofNat i + Int32.ofNat k).toNatClampNeg 0 = Int32.ofNat G[i].2[k] := RM_sym hR hi hkl
    have e2 : (w_a w 33).getD (10 * Int32.ofNat i + Int32.ofNat k).toNatClampNeg 0 = Int32.ofNat H[i].2[k] := RM_sym hH hj hkh
    rw [List.drop_eq_getElem_cons hkl, List.drop_eq_getElem_cons hkh] at h
    refine sg_175_69 hS _ _ _ ⟨RM_out hR hi, fun q => absurd ((RM_sz hR hi (by omega)).mp q) (by omega), fun _ => ⟨fun q => absurd q (by decide), fun _ => ⟨RM_io hR hi (by omega), RM_io hR hi (by omega), fun q => ?_, fun q => ?_⟩⟩⟩
    · rw [e1, e2, i_eq (by omega) (by omega)] at q
      rw [i_s]
      refine E175_k hS hR hH hi hj m (k + 1) false (by omega) (fun q => by cases q) ?_
      rw [decide_eq_false (fun e => q (List.cons.inj e).1)] at h
      exact h
    · rw [e1, e2, i_eq (by omega) (by omega)] at q
      rw [i_s]
      refine E175_k hS hR hH hi hj m (k + 1) true (by omega) (fun _ => hle) ?_
      have : (G[i].2[k] :: G[i].2.drop (k + 1) = H[i].2[k] :: H[i].2.drop (k + 1)) ↔ (G[i].2.drop (k + 1) = H[i].2.drop (k + 1)) := by rw [q]; exact ⟨fun e => (List.cons.inj e).2, fun e => by rw [e]⟩
      simp only [this] at h
      exact h
theorem E175_l (hS : gk_Sh rr w) (hR : RM w 4 28 G) (hH : RM w 8 31 H) (hl : G.length = H.length) : ∀ (m i : Nat) (b : Bool), i + m = G.length → gk_W none d 175 19 [some (.ref 27), some (.int (bI b)), some (.int (Int32.ofNat i)), none] [] w (.inl (some (.int (bI (b && decide (G.drop i = H.drop i)))))) w
  | 0, i, b, hi => by
    have h60 := RM_60 hR
    refine sg_175_19 hS _ _ ⟨fun _ => ⟨bI_b b, ?_, rfl⟩, fun q => absurd ((RM_le hR (by omega)).mpr (by omega)) q⟩
    rw [List.drop_eq_nil_of_le (by omega), List.drop_eq_nil_of_le (by omega)]; simp
  | m + 1, i, false, hi => by
    have h60 := RM_60 hR
    exact sg_175_19 hS _ _ ⟨fun _ => ⟨rfl, rfl, rfl⟩, fun _ => ⟨fun _ => ⟨rfl, rfl, rfl⟩, fun q => absurd rfl q⟩⟩
  | m + 1, i, true, hi => by
    have h60 := RM_60 hR
    have hil : i < G.length := by omega
    have hih : i < H.length := by omega
    have o1 := (RM_ok hR hil).1
    have o2 := (RM_ok hH hih).1
    have p1 := (RM_ok hR hil).2.1
    have p2 := (RM_ok hH hih).2.1
    have hd : (G.drop i = H.drop i) ↔ (G[i] = H[i] ∧ G.drop (i + 1) = H.drop (i + 1)) := by
      rw [List.drop_eq_getElem_cons hil, List.drop_eq_getElem_cons hih]
      exact ⟨fun e => List.cons.inj e, fun e => by rw [e.1, e.2]⟩
    have hk := fun (b : Bool) (hb : b = true → G[i].2.length = H[i].2.length) => E175_k (d := d) (r := .inl (some (.int (bI (true && decide (G.drop i = H.drop i)))))) (w' := w) hS hR hH hil hih G[i].2.length 0 b (by omega) hb
    have hf : G[i] ≠ H[i] → gk_W none d 175 69 [some (.ref 27), some (.int (bI false)), some (.int (Int32.ofNat i)), some (.int (Int32.ofNat 0))] [] w (.inl (some (.int (bI (true && decide (G.drop i = H.drop i)))))) w := fun hne => hk false (fun q => by cases q) (by
      have e : (true && decide (G.drop i = H.drop i)) = false := by rw [decide_eq_false (fun e => hne (hd.mp e).1)]; rfl
      rw [Bool.false_and, e]
      exact E175_l hS hR hH hl m (i + 1) false (by omega))
    refine sg_175_19 hS _ _ ⟨fun q => absurd ((RM_le hR (by omega)).mp q) (by omega), fun _ => ⟨fun q => absurd q (by decide), fun _ => ⟨RM_out hR hil, RM_out hR hil, fun q => ?_, fun q => ⟨RM_out hR hil, RM_out hR hil, fun q2 => ?_, fun q2 => ?_⟩⟩⟩⟩
    · rw [RM_left hR hil, RM_left hH hih, i_eq (by omega) (by omega)] at q
      exact hf (fun e => q (by rw [e]))
    · rw [RM_size hR hil, RM_size hH hih, i_eq (by omega) (by omega)] at q2
      exact hf (fun e => q2 (by rw [e]))
    · rw [RM_left hR hil, RM_left hH hih, i_eq (by omega) (by omega)] at q
      rw [RM_size hR hil, RM_size hH hih, i_eq (by omega) (by omega)] at q2
      refine hk true (fun _ => q2) ?_
      rw [List.drop_zero, List.drop_zero, Bool.true_and, Bool.true_and]
      have ih := E175_l hS hR hH hl m (i + 1) (decide (G[i].2 = H[i].2)) (by omega)
      have e : decide (G.drop i = H.drop i) = (decide (G[i].2 = H[i].2) && decide (G.drop (i + 1) = H.drop (i + 1))) := by
        have hp : G[i] = H[i] ↔ G[i].2 = H[i].2 := ⟨fun e => by rw [e], fun e => Prod.ext q e⟩
        rw [Bool.eq_iff_iff, Bool.and_eq_true, decide_eq_true_eq, decide_eq_true_eq, decide_eq_true_eq, hd, hp]
      rw [e]
      exact ih
/-- isAsBefore -/
theorem E175 (hS : gk_Sh rr w) (hR : RM w 4 28 G) (hH : RM w 8 31 H) : gk_E d 175 [.ref 27] w (.inl (some (.int (bI (decide (G = H)))))) w := by
  have h60 := RM_60 hR
  have h61 := RM_60 hH
  refine gk_E_i rfl rfl (sg_175_0 hS ⟨fun q => ?_, fun q => ?_⟩)
  · rw [hR.1, hH.1, i_eq (by omega) (by omega)] at q
    rw [decide_eq_false (fun e => q (by rw [e]))]
    refine sg_175_19 hS _ _ ⟨fun _ => ⟨rfl, rfl, rfl⟩, fun _ => ⟨fun _ => ⟨rfl, rfl, rfl⟩, fun q => absurd rfl q⟩⟩
  · rw [hR.1, hH.1, i_eq (by omega) (by omega)] at q
    have := E175_l (d := d) hS hR hH q G.length 0 true (by omega)
    rw [List.drop_zero, List.drop_zero, Bool.true_and] at this
    exact this
/-- fail -/
theorem E146 (hS : gk_Sh rr w) (x : Int32) : gk_E d 146 [.ref 27, .int x] w (.inl (some (.int 0))) (w_si w 26 0 x) := gk_E_i rfl rfl (sg_146_0 hS _ ⟨rfl, rfl⟩)
/-- settled: all went well -/
theorem E173_ok (hS : gk_Sh rr w) (hR : RM w 4 28 G) (hH : RM w 8 31 H) (ho : w_i w 26 14 = 0) : gk_E (d + 1) 173 [.ref 27] w (.inl (some (.int (Int32.ofNat G.length)))) (if G = H then w else w_si w 26 28 0) := by
  by_cases h : G = H
  · rw [if_pos h]
    refine gk_E_i rfl rfl (sg_173_0 hS ⟨fun _ => ⟨_, E175 hS hR hH, fun _ => ⟨?_, rfl⟩, fun q => ?_⟩, fun q => absurd ho q⟩)
    · rw [hR.1]
    · rw [decide_eq_true h] at q; exact absurd q (by decide)
  · rw [if_neg h]
    refine gk_E_i rfl rfl (sg_173_0 hS ⟨fun _ => ⟨_, E175 hS hR hH, fun q => ?_, fun _ => ⟨?_, rfl⟩⟩, fun q => absurd ho q⟩)
    · rw [decide_eq_false h] at q; exact absurd rfl q
    · rw [w_i_ne (by decide), hR.1]
/-- settled: over -/
theorem E173_no (hS : gk_Sh rr w) (hH : RM w 8 31 H) (ho : ¬ w_i w 26 14 = 0) : ∃ w', gk_E (d + 1) 173 [.ref 27] w (.inl (some (.int 0))) w' ∧ gk_Sh rr w' ∧ Fr [28, 29, 30] [(26, 4), (26, 0)] w w' ∧ RM w' 4 28 H ∧ w_i w' 26 0 = 1 := by
  obtain ⟨w1, e1, s1, f1, R1⟩ := E174 (d := d) hS hH
  refine ⟨_, gk_E_i rfl rfl (sg_173_0 hS ⟨fun q => absurd q ho, fun _ => ⟨w1, e1, s1, _, _, E146 s1 1, sh_si s1 ly_26 (k := 0) rfl _, rfl, rfl⟩⟩), sh_si s1 ly_26 (k := 0) rfl _, Fr_trans (Fr_mono f1 (by simp) (by simp)) (Fr_si (by decide) _), RM_congr R1 (w_i_ne (by decide)) w_a_si w_a_si w_a_si, w_i_same s1 ly_26 rfl⟩
end CP
