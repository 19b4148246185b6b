/-! part 70: derive of the reference, as a whole -/
section M2
variable {d : Nat} {rr : List gk_S} {w : gk_Wd} {wd : List Nat} {G : List Rl}
theorem E212_n (hS : gk_Sh rr w) (hR : RM w 4 28 G) (hG : G.all gbB = false) : ∃ w', gk_E (d + 4) 212 [.ref 27] w (.inl (some (.int 0))) w' ∧ gk_Sh rr w' ∧ Fr [44, 46, 47] [(26, 0), (26, 28), (26, 30)] w w' ∧ w_i w' 26 0 = 1 ∧ w_i w' 26 28 = w_i w 26 28 := by
  have s0 := sh_si hS ly_26 (k := 0) rfl 0
  have f0 : Fr [44, 46, 47] [(26, 0)] w (w_si w 26 0 0) := Fr_si (by decide) _
  have e1 := E191 (d := d + 2) s0 (RM_Fr hR f0 (by decide) (by decide))
  rw [hG] at e1
  have s1 := sh_si s0 ly_26 (k := 0) rfl 1
  refine ⟨_, gk_E_i rfl rfl (sg_212_0 (d := d + 3) hS ⟨_, e1, fun q => absurd rfl q, fun _ => ⟨_, _, E146 s0 1, s1, rfl, rfl⟩⟩), s1, Fr_trans (Fr_mono f0 (by simp) (by simp)) (Fr_si (by decide) _), w_i_same s0 ly_26 rfl, ?_⟩
  rw [w_i_ne (by decide), w_i_ne (by decide)]
theorem E212_y (hS : gk_Sh rr w) (hR : RM w 4 28 G) (hW : WM w wd) (hG : G.all gbB = true) : ∃ (E : Nat → Nat → Int32) (w' : gk_Wd), isE wd G E ∧ gk_E (d + 4) 212 [.ref 27] w (.inl (some (.int (if bt (E 0 0) wd.length = true then Int32.ofNat wd.length else 0)))) w' ∧ gk_Sh rr w' ∧ Fr [44, 46, 47] [(26, 0), (26, 28), (26, 30)] w w' ∧ (bt (E 0 0) wd.length = false → w_i w' 26 0 = 2 ∧ w_i w' 26 28 = 0) ∧ (bt (E 0 0) wd.length = true → w_i w' 26 0 = 0 ∧ w_i w' 26 28 = Int32.ofNat wd.length ∧ ∀ k, k < wd.length → (w_a w' 46).getD k 0 = Int32.ofNat (stp wd E G k)) := by
  have hL := hW.2.1
  have hGm : ∀ r ∈ G, gbB r = true := List.all_eq_true.mp hG
  have s0 := sh_si hS ly_26 (k := 0) rfl 0
  have f0 : Fr [44, 46, 47] [(26, 0), (26, 28), (26, 30)] w (w_si w 26 0 0) := Fr_si (by decide) _
  have e1 := E191 (d := d + 2) s0 (RM_Fr hR f0 (by decide) (by decide))
  rw [hG] at e1
  have s1 := sh_si s0 ly_26 (k := 28) rfl 0
  have f1 : Fr [44, 46, 47] [(26, 0), (26, 28), (26, 30)] w (w_si (w_si w 26 0 0) 26 28 0) := Fr_trans f0 (Fr_si (by decide) _)
  have z0 : w_i (w_si (w_si w 26 0 0) 26 28 0) 26 0 = 0 := by rw [w_i_ne (by decide), w_i_same hS ly_26 rfl]
  have z28 : w_i (w_si (w_si w 26 0 0) 26 28 0) 26 28 = 0 := w_i_same s0 ly_26 rfl
  generalize hw1 : w_si (w_si w 26 0 0) 26 28 0 = w1 at s1 f1 z0 z28
  obtain ⟨E, w2, hE, hb, e2, s2, f2, T2⟩ := E206 (d := d + 1) s1 (RM_Fr hR f1 (by decide) (by decide)) (WM_Fr hW f1 (by decide) (by decide))
  have f12 : Fr [44, 46, 47] [(26, 0), (26, 28), (26, 30)] w w2 := Fr_trans f1 (Fr_mono f2 (by simp) (by simp))
  have R2 : RM w2 4 28 G := RM_Fr hR f12 (by decide) (by decide)
  have W2 := WM_Fr hW f12 (by decide) (by decide)
  have e00 : (w_a w2 44).getD 0 0 = E 0 0 := T2 0 0 (by omega) (by omega)
  have hbt0 : (((w_a w2 44).getD 0 0) >>> ((w_i w2 26 24) &&& 31)) &&& 1 = 0 ↔ bt (E 0 0) wd.length = false := by
    rw [e00, W2.1]; exact bt_is0 _ (by omega)
  have z2 : w_i w2 26 0 = 0 := by rw [Fr_i f2 (by simp), z0]
  have z228 : w_i w2 26 28 = 0 := by rw [Fr_i f2 (by simp), z28]
  cases hbt : bt (E 0 0) wd.length with
  | false =>
    have s3 := sh_si s2 ly_26 (k := 0) rfl 2
    refine ⟨E, w_si w2 26 0 2, hE, ?_, s3, Fr_trans f12 (Fr_si (by decide) _), fun _ => ⟨w_i_same s2 ly_26 rfl, by rw [w_i_ne (by decide), z228]⟩, fun q => by rw [hbt] at q; cases q⟩
    rw [hbt, if_neg (by decide)]
    refine gk_E_i rfl rfl (sg_212_0 (d := d + 3) hS ⟨_, e1, fun _ => ⟨w2, ?_, s2, fun q => absurd (hbt0.mpr hbt) q, fun _ => ⟨_, _, E146 s2 2, s3, rfl, rfl⟩⟩, fun q => absurd q (by decide)⟩)
    rw [hw1]; exact e2
  | true =>
    have hinv := rvs_inv hE hb hL hGm hbt
    have s3 := sh_as (sh_si s2 ly_26 (k := 30) rfl 1) ly_47 0 0
    have l47 := (w_int (sh_si s2 ly_26 (k := 30) rfl 1) ly_47).2
    have f3 : Fr [46, 47] [(26, 28), (26, 30)] w2 (w_sa (w_si w2 26 30 1) 47 ((w_a (w_si w2 26 30 1) 47).set 0 0)) := Fr_trans (Fr_si (by decide) _) (Fr_sa (by decide) _)
    have P3 : PK (w_sa (w_si w2 26 30 1) 47 ((w_a (w_si w2 26 30 1) 47).set 0 0)) 26 30 47 (rvs wd E G 0) := ⟨by rw [w_i_sa, w_i_same s2 ly_26 rfl]; rfl, by simp [rvs], fun x hx => by rw [List.mem_singleton.mp hx]; omega, fun i s hi => by
      have hi2 : [0][i]? = some s := hi
      have h3 := (List.getElem?_eq_some_iff.mp hi2).1
      simp at h3
      subst h3
      simp at hi2
      rw [w_a_same (sh_si s2 ly_26 (k := 30) rfl 1) ly_47, getD_set32 _ (by omega), if_pos rfl, ← hi2]; rfl⟩
    generalize hw3 : w_sa (w_si w2 26 30 1) 47 ((w_a (w_si w2 26 30 1) 47).set 0 0) = w3 at s3 f3 P3
    obtain ⟨-, w4, ⟨s4, f4, P4, c4, S4⟩, g4⟩ := up_loop (α := Unit) (d := d + 4) (mi := 212) (pc := 63) wd.length (fun k _ => [some (.ref 27), some (.int (Int32.ofNat k))])
      (fun n _ w4 => gk_Sh rr w4 ∧ Fr [46, 47] [(26, 28), (26, 30)] w2 w4 ∧ PK w4 26 30 47 (rvs wd E G n) ∧ w_i w4 26 28 = Int32.ofNat n ∧ ∀ k, k < n → (w_a w4 46).getD k 0 = Int32.ofNat (stp wd E G k))
      (fun n _ w4 hn hI => by
        obtain ⟨s4, f4, P4, c4, S4⟩ := hI
        obtain ⟨i1, i2, i3, i4⟩ := hinv n (by omega)
        obtain ⟨hne, i, hi⟩ := i4 hn
        have R4 : RM w4 4 28 G := RM_Fr R2 f4 (by decide) (by decide)
        have W4 := WM_Fr W2 f4 (by decide) (by decide)
        have T4 : TE w4 44 E := TE_congr T2 (Fr_a f4 (by decide))
        have er : rvs wd E G n = (rvs wd E G n).dropLast ++ [(rvs wd E G n).getLast hne] := (List.dropLast_concat_getLast hne).symm
        have P4' := P4
        rw [er] at P4'
        have hi' := hi
        rw [er] at hi'
        have hlen : (rvs wd E G n).dropLast.length ≤ 9 := by
          rw [List.length_dropLast]; omega
        obtain ⟨w5, e5, s5, f5, P5⟩ := E213 (d := d) s4 R4 W4 T4 hGm P4' hn hlen hi'
        have ers : rvs wd E G (n + 1) = (rvs wd E G n).dropLast ++ ((G.getD i (0, [])).2.drop 1).reverse := by
          simp only [rvs, hi, Option.getD_some]
        rw [← ers] at P5
        have hle : ¬ w_i w4 26 24 ≤ Int32.ofNat n := by
          rw [W4.1]; intro q
          exact absurd ((i_le (by omega) (by omega)).mp q) (by omega)
        have l46 := (w_int s5 ly_46).2
        have s6 := sh_si (sh_as s5 ly_46 n (Int32.ofNat i)) ly_26 (k := 28) rfl (Int32.ofNat (n + 1))
        have ec : w_i (w_sa w5 46 ((w_a w5 46).set (Int32.ofNat n).toNatClampNeg (Int32.ofNat i))) 26 28 + 1 = Int32.ofNat (n + 1) := by
          rw [w_i_sa, Fr_i f5 (by decide), c4, i_s]
        refine ⟨(), _, ⟨s6, Fr_trans f4 (Fr_trans (Fr_mono f5 (by simp) (by simp)) (Fr_trans (Fr_sa (by decide) _) (Fr_si (by decide) _))), PK_congr P5 (by rw [w_i_ne (by decide), w_i_sa]) (by rw [w_a_si, w_a_ne (by decide)]), w_i_same (sh_as s5 ly_46 n (Int32.ofNat i)) ly_26 rfl, fun k hk => ?_⟩, fun r w' h => sg_212_63 (d := d + 3) s4 _ ⟨fun q => absurd q hle, fun _ => ⟨_, w5, e5, s5, o_ok (by omega) (by omega), ?_⟩⟩⟩
        · rw [w_a_si, w_a_same s5 ly_46, getD_set32 _ (by omega)]
          by_cases e : k = n
          · subst e
            rw [if_pos rfl]
            unfold stp
            rw [hi]; rfl
          · rw [if_neg e, Fr_a f5 (by decide)]; exact S4 k (by omega)
        · rw [ec, i_nat (by omega), i_s]; exact h) wd.length 0 () w3 (by omega) ⟨s3, f3, P3, by
        rw [← hw3, w_i_sa, w_i_ne (by decide), z228]; rfl, fun k hk => by omega⟩
    have W4 := WM_Fr W2 f4 (by decide) (by decide)
    refine ⟨E, w4, hE, ?_, s4, Fr_trans f12 (Fr_mono f4 (by simp) (by simp)), fun q => (by rw [hbt] at q; cases q), fun _ => ⟨by rw [Fr_i f4 (by decide), z2], c4, S4⟩⟩
    rw [hbt, if_pos rfl]
    refine gk_E_i rfl rfl (sg_212_0 (d := d + 3) hS ⟨_, e1, fun _ => ⟨w2, by rw [hw1]; exact e2, s2, fun _ => ?_, fun q => ?_⟩, fun q => absurd q (by decide)⟩)
    · rw [hw3]
      refine g4 _ _ (sg_212_63 (d := d + 3) s4 _ ⟨fun _ => ⟨by rw [c4], rfl⟩, fun q => absurd ?_ q⟩)
      rw [W4.1]; exact (i_le (by omega) (by omega)).mpr (Nat.le_refl _)
    · rw [hbt0, hbt] at q; cases q
end M2
