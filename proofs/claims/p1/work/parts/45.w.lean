/-! part 25: what comes of a point of the program; rules -/
def gk_W (scr : Option (List Int32)) (d mi pc : Nat) (l : gk_Lc) (st : List Value) (w : gk_Wd) (r : gk_Res) (w' : gk_Wd) : Prop := ∃ n, gk_run gp_P n scr d mi pc l st w = some (r, w')
/-- a call's answer and world -/
def gk_E (d mj : Nat) (as : List Value) (w : gk_Wd) (r : gk_Res) (w' : gk_Wd) : Prop := (as.flatMap gk_slots).length ≤ (gk_inf gp_P mj).1 ∧ gk_W none d mj 0 (gk_entry as (gk_inf gp_P mj).1) [] w r w'
def gk_ps : Nat → Nat → gk_Pt → Option gk_Pt
  | 0, _, x => some x
  | k + 1, mi, x => match gk_dec gp_P mi x.1 with
    | none => none
    | some i => match gk_pure x.1 x.2.1 x.2.2 i with
      | none => none
      | some y => gk_ps k mi y
section WR
variable {scr : Option (List Int32)} {d mi pc : Nat} {l : gk_Lc} {st : List Value} {w w' : gk_Wd} {r : gk_Res}
theorem gk_W_le {l1 : gk_Lc} (h : gk_le l1 l) (hw : gk_W scr d mi pc l1 st w r w') : gk_W scr d mi pc l st w r w' := by
  obtain ⟨n, hn⟩ := hw
  exact ⟨n, gk_run_up n _ _ _ _ _ _ _ _ hn n d l (Nat.le_refl _) (Nat.le_refl _) h⟩
theorem gk_W_d {d1 : Nat} (h : d1 ≤ d) (hw : gk_W scr d1 mi pc l st w r w') : gk_W scr d mi pc l st w r w' := by
  obtain ⟨n, hn⟩ := hw
  exact ⟨n, gk_run_up n _ _ _ _ _ _ _ _ hn n d l (Nat.le_refl _) h (gk_le_refl _)⟩
theorem gk_E_d {d1 mj : Nat} {as : List Value} (h : d1 ≤ d) (hw : gk_E d1 mj as w r w') : gk_E d mj as w r w' := ⟨hw.1, gk_W_d h hw.2⟩
theorem gk_W_p {i : Instr} {x : gk_Pt} (hd : gk_dec gp_P mi pc = some i) (hp : gk_pure pc l st i = some x) (h : gk_W scr d mi x.1 x.2.1 x.2.2 w r w') : gk_W scr d mi pc l st w r w' := by
  obtain ⟨n, hn⟩ := h
  exact ⟨n + 1, by rw [gk_fw_p hd hp]; exact hn⟩
theorem gk_W_h {i : Instr} {st1 : List Value} {w1 : gk_Wd} (pc1 : Nat) (hd : gk_dec gp_P mi pc = some i) (hx : gk_xnw gp_P mi pc = none) (hh : gk_heap gp_P scr mi w st i = some (st1, w1)) (he : pc + gk_len i = pc1) (h : gk_W scr d mi pc1 l st1 w1 r w') : gk_W scr d mi pc l st w r w' := by
  obtain ⟨n, hn⟩ := h
  exact ⟨n + 1, by rw [gk_fw_h hd hx hh, he]; exact hn⟩
theorem gk_W_r {i : Instr} {v : Option Value} (hd : gk_dec gp_P mi pc = some i) (hx : gk_xnw gp_P mi pc = none) (hr : gk_ret (gk_inf gp_P mi).2 st i = some v) : gk_W scr d mi pc l st w (.inl v) w := ⟨1, gk_fw_r hd hx hr⟩
theorem gk_W_x {i : Instr} {ci : Nat} (hd : gk_dec gp_P mi pc = some i) (hx : gk_xnw gp_P mi pc = some ci) (hc : gk_cat st ≤ 8 ∧ 5 ≤ d) : gk_W scr d mi pc l st w (.inr ci) (w ++ [.inl (ci, [])]) := ⟨1, gk_fw_x hd (gp_xnw_np hx hd _ _) hx hc⟩
theorem gk_W_c {i : Instr} {mj : Nat} {as rs : List Value} {v : Option Value} {w1 : gk_Wd} (st1 : List Value) (pc1 : Nat) (hd : gk_dec gp_P mi pc = some i) (hx : gk_xnw gp_P mi pc = none) (hc : gk_call gp_P mi w st i = some (mj, as, rs)) (hC : gk_E d mj as w (.inl v) w1) (hs : v.toList ++ rs = st1) (he : pc + 3 = pc1) (h : gk_W scr (d + 1) mi pc1 l st1 w1 r w') : gk_W scr (d + 1) mi pc l st w r w' := by
  obtain ⟨hf, n1, h1⟩ := hC
  obtain ⟨n2, h2⟩ := h
  subst hs; subst he
  refine ⟨n1 + n2 + 1, ?_⟩
  rw [gk_fw_c hd hx hc hf (gk_run_up n1 _ _ _ _ _ _ _ _ h1 (n1 + n2) d _ (by omega) (Nat.le_refl _) (gk_le_refl _))]
  exact gk_run_up n2 _ _ _ _ _ _ _ _ h2 (n1 + n2) _ _ (by omega) (Nat.le_refl _) (gk_le_refl _)
theorem gk_W_t {i : Instr} {mj ci : Nat} {as rs : List Value} {w1 : gk_Wd} (pc1 : Nat) (hd : gk_dec gp_P mi pc = some i) (hx : gk_xnw gp_P mi pc = none) (hc : gk_call gp_P mi w st i = some (mj, as, rs)) (hC : gk_E d mj as w (.inr ci) w1) (hh : gk_hnd gp_P mi pc ci = some pc1) (h : gk_W scr (d + 1) mi pc1 l [.ref w1.length] w1 r w') : gk_W scr (d + 1) mi pc l st w r w' := by
  obtain ⟨hf, n1, h1⟩ := hC
  obtain ⟨n2, h2⟩ := h
  refine ⟨n1 + n2 + 1, ?_⟩
  rw [gk_fw_t hd hx hc hf (gk_run_up n1 _ _ _ _ _ _ _ _ h1 (n1 + n2) d _ (by omega) (Nat.le_refl _) (gk_le_refl _)) hh]
  exact gk_run_up n2 _ _ _ _ _ _ _ _ h2 (n1 + n2) _ _ (by omega) (Nat.le_refl _) (gk_le_refl _)
end WR
theorem gk_ps_W {scr : Option (List Int32)} {d mi : Nat} {w w' : gk_Wd} {r : gk_Res} : ∀ (k : Nat) (x y : gk_Pt), gk_ps k mi x = some y → gk_W scr d mi y.1 y.2.1 y.2.2 w r w' → gk_W scr d mi x.1 x.2.1 x.2.2 w r w'
  | 0, x, y, h, hw => by cases h; exact hw
  | k + 1, x, y, h, hw => by
    rw [gk_ps] at h
    split at h
    · cases h
    · rename_i i hi
      split at h
      · cases h
      · rename_i z hz
        exact gk_W_p hi hz (gk_ps_W k z y h hw)
section WS
variable {scr : Option (List Int32)} {d mi pc : Nat} {l : gk_Lc} {st : List Value} {w w' : gk_Wd} {r : gk_Res}
theorem gk_W_s (k : Nat) {pc1 : Nat} {l1 : gk_Lc} {st1 : List Value} (hp : gk_ps k mi (pc, l, st) = some (pc1, l1, st1)) (h : gk_W scr d mi pc1 l1 st1 w r w') : gk_W scr d mi pc l st w r w' := gk_ps_W k _ _ hp h
theorem gk_W_b (k : Nat) (p : Prop) [Decidable p] {t e : Nat} {l1 : gk_Lc} {st1 : List Value} (hp : gk_ps k mi (pc, l, st) = some (if decide p = true then t else e, l1, st1)) (h1 : p → gk_W scr d mi t l1 st1 w r w') (h2 : ¬ p → gk_W scr d mi e l1 st1 w r w') : gk_W scr d mi pc l st w r w' := by
  refine gk_ps_W k _ _ hp ?_
  by_cases h : p
  · simpa [h] using h1 h
  · simpa [h] using h2 h
end WS
