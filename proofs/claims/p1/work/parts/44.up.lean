/-! part 24: more steps, more room, more locals known: the same answer -/
def gk_le : gk_Lc → gk_Lc → Prop
  | [], [] => True
  | o :: r, o' :: r' => (o = none ∨ o = o') ∧ gk_le r r'
  | _, _ => False
theorem gk_le_refl : ∀ l : gk_Lc, gk_le l l
  | [] => trivial
  | _ :: r => ⟨Or.inr rfl, gk_le_refl r⟩
theorem gk_le_len : ∀ {l l' : gk_Lc}, gk_le l l' → l.length = l'.length
  | [], [], _ => rfl
  | _ :: r, _ :: r', h => by simp [gk_le_len h.2]
  | [], _ :: _, h => h.elim
  | _ :: _, [], h => h.elim
theorem gk_le_get : ∀ {l l' : gk_Lc}, gk_le l l' → ∀ (k : Nat) (v : Value), l[k]? = some (some v) → l'[k]? = some (some v)
  | [], [], _, k, v, h => h
  | o :: r, o' :: r', h, 0, v, hk => by
    simp only [List.getElem?_cons_zero, Option.some.injEq] at hk ⊢
    rcases h.1 with h1 | h1
    · rw [h1] at hk; cases hk
    · rw [← h1, hk]
  | o :: r, o' :: r', h, k + 1, v, hk => by
    simp only [List.getElem?_cons_succ] at hk ⊢
    exact gk_le_get h.2 k v hk
  | [], _ :: _, h, _, _, _ => h.elim
  | _ :: _, [], h, _, _, _ => h.elim
theorem gk_c1_le {o o' : Option Value} (h : o = none ∨ o = o') : gk_c1 o = none ∨ gk_c1 o = gk_c1 o' := by
  rcases h with rfl | rfl
  · exact Or.inl rfl
  · exact Or.inr rfl
theorem gk_st1_le (v : Value) : ∀ (i : Nat) {l l' : gk_Lc}, gk_le l l' → gk_le (gk_st1 v i l) (gk_st1 v i l')
  | i, [], [], _ => by cases i <;> exact trivial
  | 0, _ :: _, _ :: _, h => ⟨Or.inr rfl, h.2⟩
  | 1, _ :: _, _ :: _, h => ⟨gk_c1_le h.1, gk_st1_le v 0 h.2⟩
  | i + 2, _ :: _, _ :: _, h => ⟨h.1, gk_st1_le v (i + 1) h.2⟩
  | _, [], _ :: _, h => h.elim
  | _, _ :: _, [], h => h.elim
theorem gk_set_le : ∀ (i : Nat) {l l' : gk_Lc}, gk_le l l' → gk_le (l.set i none) (l'.set i none)
  | i, [], [], _ => trivial
  | 0, _ :: _, _ :: _, h => ⟨Or.inr rfl, h.2⟩
  | i + 1, _ :: _, _ :: _, h => ⟨h.1, gk_set_le i h.2⟩
  | _, [], _ :: _, h => h.elim
  | _, _ :: _, [], h => h.elim
theorem gk_st2_le (v : Value) (i : Nat) {l l' : gk_Lc} (h : gk_le l l') : gk_le (gk_st2 v i l) (gk_st2 v i l') := gk_set_le _ (gk_st1_le v i h)
section UP
variable {pc : Nat} {l l' : gk_Lc} {st : List Value} {x : gk_Pt}
theorem gk_ldi_le (h : gk_le l l') {k : Nat} {v : Value} (e : gk_ldi l k = some v) : gk_ldi l' k = some v := by
  unfold gk_ldi at e ⊢
  split at e
  · rename_i y hy
    rw [gk_le_get h _ _ hy]; exact e
  · cases e
theorem gk_ldl_le (h : gk_le l l') {k : Nat} {v : Value} (e : gk_ldl l k = some v) : gk_ldl l' k = some v := by
  unfold gk_ldl at e ⊢
  split at e
  · rename_i y hy
    rw [gk_le_get h _ _ hy]; exact e
  · cases e
theorem gk_lda_le (h : gk_le l l') {k : Nat} {v : Value} (e : gk_lda l k = some v) : gk_lda l' k = some v := by
  unfold gk_lda at e ⊢
  split at e
  · rename_i y hy
    rw [gk_le_get h _ _ hy]; exact e
  · rename_i hy
    rw [gk_le_get h _ _ hy]; exact e
  · cases e
theorem gk_ld_le {n : Nat} {o o' : Option Value} (ho : ∀ v, o = some v → o' = some v) (h : gk_le l l') (e : gk_ld n l st o = some x) : ∃ l1, gk_le x.2.1 l1 ∧ gk_ld n l' st o' = some (x.1, l1, x.2.2) := by
  unfold gk_ld at e ⊢
  split at e
  · rename_i v
    cases e
    rw [ho v rfl]
    exact ⟨l', h, rfl⟩
  · cases e
theorem gk_sti_le {n k : Nat} (h : gk_le l l') (e : gk_sti n k l st = some x) : ∃ l1, gk_le x.2.1 l1 ∧ gk_sti n k l' st = some (x.1, l1, x.2.2) := by
  unfold gk_sti at e ⊢
  split at e
  · split at e
    · rename_i hk
      cases e
      exact ⟨_, gk_st1_le _ k h, by simp only; rw [if_pos (gk_le_len h ▸ hk)]⟩
    · cases e
  · cases e
theorem gk_sta_le {n k : Nat} (h : gk_le l l') (e : gk_sta n k l st = some x) : ∃ l1, gk_le x.2.1 l1 ∧ gk_sta n k l' st = some (x.1, l1, x.2.2) := by
  unfold gk_sta at e ⊢
  split at e
  · split at e
    · rename_i hk
      cases e
      exact ⟨_, gk_st1_le _ k h, by simp only; rw [if_pos (gk_le_len h ▸ hk)]⟩
    · cases e
  · split at e
    · rename_i hk
      cases e
      exact ⟨_, gk_st1_le _ k h, by simp only; rw [if_pos (gk_le_len h ▸ hk)]⟩
    · cases e
  · cases e
theorem gk_stl_le {n k : Nat} (h : gk_le l l') (e : gk_stl n k l st = some x) : ∃ l1, gk_le x.2.1 l1 ∧ gk_stl n k l' st = some (x.1, l1, x.2.2) := by
  unfold gk_stl at e ⊢
  split at e
  · split at e
    · rename_i hk
      cases e
      exact ⟨_, gk_st2_le _ k h, by simp only; rw [if_pos (gk_le_len h ▸ hk)]⟩
    · cases e
  · cases e
theorem gk_inc_le {k : Nat} {n : Int} (h : gk_le l l') (e : gk_inc pc l st k n = some x) : ∃ l1, gk_le x.2.1 l1 ∧ gk_inc pc l' st k n = some (x.1, l1, x.2.2) := by
  unfold gk_inc at e ⊢
  split at e
  · rename_i y hy
    cases e
    rw [gk_le_get h _ _ hy]
    exact ⟨_, gk_st1_le _ k h, rfl⟩
  · cases e
theorem gk_to_le {off : Int} (h : gk_le l l') (e : gk_to pc off l st = some x) : ∃ l1, gk_le x.2.1 l1 ∧ gk_to pc off l' st = some (x.1, l1, x.2.2) := by
  unfold gk_to at e ⊢
  split at e
  · cases e
    exact ⟨l', h, rfl⟩
  · cases e
theorem gk_br_le {off : Int} {b : Bool} (h : gk_le l l') (e : gk_br pc off l st b = some x) : ∃ l1, gk_le x.2.1 l1 ∧ gk_br pc off l' st b = some (x.1, l1, x.2.2) := by
  unfold gk_br at e ⊢
  split at e
  · cases e
    exact ⟨l', h, rfl⟩
  · cases e
theorem gk_pure_le {i : Instr} (h : gk_le l l') (e : gk_pure pc l st i = some x) : ∃ l1, gk_le x.2.1 l1 ∧ gk_pure pc l' st i = some (x.1, l1, x.2.2) := by
  cases i <;> first
    | exact gk_ld_le (fun v => gk_ldi_le h) h e
    | exact gk_ld_le (fun v => gk_ldl_le h) h e
    | exact gk_ld_le (fun v => gk_lda_le h) h e
    | exact gk_sti_le h e
    | exact gk_sta_le h e
    | exact gk_stl_le h e
    | exact gk_inc_le h e
    | exact gk_to_le h e
    | (cases e; done)
    | (cases e; exact ⟨l', h, rfl⟩)
    | (simp only [gk_pure, gk_ii] at e ⊢; split at e <;> first | (cases e; done) | (cases e; exact ⟨l', h, rfl⟩))
    | (simp only [gk_pure, gk_iz] at e ⊢; split at e <;> first | (cases e; done) | (split at e <;> first | (cases e; done) | (rename_i hz; cases e; rw [if_neg hz]; exact ⟨l', h, rfl⟩)))
    | (simp only [gk_pure, gk_ll] at e ⊢; split at e <;> first | (cases e; done) | (cases e; exact ⟨l', h, rfl⟩))
    | (simp only [gk_pure, gk_li] at e ⊢; split at e <;> first | (cases e; done) | (cases e; exact ⟨l', h, rfl⟩))
    | (simp only [gk_pure, gk_ui] at e ⊢; split at e <;> first | (cases e; done) | (cases e; exact ⟨l', h, rfl⟩))
    | (simp only [gk_pure, gk_ul] at e ⊢; split at e <;> first | (cases e; done) | (cases e; exact ⟨l', h, rfl⟩))
    | (simp only [gk_pure, gk_lc] at e ⊢; split at e <;> first | (cases e; done) | (cases e; exact ⟨l', h, rfl⟩))
    | (simp only [gk_pure, gk_dup] at e ⊢; split at e <;> first | (cases e; done) | (split at e <;> first | (cases e; done) | (rename_i hz; cases e; rw [if_pos hz]; exact ⟨l', h, rfl⟩)))
    | (simp only [gk_pure, gk_pop] at e ⊢; split at e <;> first | (cases e; done) | (split at e <;> first | (cases e; done) | (rename_i hz; cases e; rw [if_pos hz]; exact ⟨l', h, rfl⟩)))
    | (simp only [gk_pure, gk_dup2] at e ⊢; split at e <;> first | (cases e; done) | (split at e <;> first | (cases e; done) | (rename_i hz; cases e; rw [if_pos hz]; exact ⟨l', h, rfl⟩)))
    | (simp only [gk_pure, gk_if] at e ⊢; split at e <;> first | (cases e; done) | exact gk_br_le h e)
    | (simp only [gk_pure, gk_ic] at e ⊢; split at e <;> first | (cases e; done) | exact gk_br_le h e)
    | (simp only [gk_pure, gk_sw] at e ⊢; split at e <;> first | (cases e; done) | (split at e <;> first | (rename_i hz; rw [if_pos hz]; exact gk_to_le h e) | (rename_i hz; rw [if_neg hz]; split at e <;> first | (cases e; done) | exact gk_to_le h e)))
end UP
theorem gk_heap_np {P : gk_Pg} {scr : Option (List Int32)} {mi : Nat} {w : gk_Wd} {st : List Value} {i : Instr} {x : List Value × gk_Wd} (h : gk_heap P scr mi w st i = some x) (pc : Nat) (l : gk_Lc) : gk_pure pc l st i = none := by
  cases i <;> first | rfl | cases h
theorem gk_ret_np {ty : Option FieldType} {st : List Value} {i : Instr} {x : Option Value} (h : gk_ret ty st i = some x) (pc : Nat) (l : gk_Lc) : gk_pure pc l st i = none := by
  cases i <;> first | rfl | cases h
theorem gk_ret_nh {ty : Option FieldType} {st : List Value} {i : Instr} {x : Option Value} (h : gk_ret ty st i = some x) (P : gk_Pg) (scr : Option (List Int32)) (mi : Nat) (w : gk_Wd) : gk_heap P scr mi w st i = none := by
  cases i <;> first | rfl | cases h
theorem gk_call_np {P : gk_Pg} {mi : Nat} {w : gk_Wd} {st : List Value} {i : Instr} {x : Nat × List Value × List Value} (h : gk_call P mi w st i = some x) (pc : Nat) (l : gk_Lc) : gk_pure pc l st i = none := by
  cases i <;> first | rfl | cases h
theorem gk_call_nr {P : gk_Pg} {mi : Nat} {w : gk_Wd} {st : List Value} {i : Instr} {x : Nat × List Value × List Value} (h : gk_call P mi w st i = some x) (ty : Option FieldType) : gk_ret ty st i = none := by
  cases i <;> first | rfl | cases h
theorem gk_call_nh {P : gk_Pg} {mi : Nat} {w : gk_Wd} {st : List Value} {i : Instr} {x : Nat × List Value × List Value} (h : gk_call P mi w st i = some x) (scr : Option (List Int32)) : gk_heap P scr mi w st i = none := by
  cases i <;> first
    | rfl
    | (cases h; done)
    | (simp only [gk_call] at h; simp only [gk_heap]; split at h <;> first | (cases h; done) | (rename_i hm; rw [hm]; rfl))
/-- a step of the interpreter, by what it was, with all that it looked at -/
theorem gk_run_inv2 {P : gk_Pg} {scr : Option (List Int32)} {n d mi pc : Nat} {l : gk_Lc} {st : List Value} {w : gk_Wd} {q : gk_Res × gk_Wd} (h : gk_run P (n + 1) scr d mi pc l st w = some q) : ∃ i : Instr, gk_dec P mi pc = some i ∧
    ((∃ x : gk_Pt, gk_pure pc l st i = some x ∧ gk_run P n scr d mi x.1 x.2.1 x.2.2 w = some q) ∨
    (∃ ci : Nat, gk_xnw P mi pc = some ci ∧ (gk_cat st ≤ 8 ∧ 5 ≤ d) ∧ q = (.inr ci, w ++ [.inl (ci, [])])) ∨
    (gk_xnw P mi pc = none ∧ ∃ x : List Value × gk_Wd, gk_heap P scr mi w st i = some x ∧ gk_run P n scr d mi (pc + gk_len i) l x.1 x.2 = some q) ∨
    (gk_xnw P mi pc = none ∧ ∃ r : Option Value, gk_ret (gk_inf P mi).2 st i = some r ∧ q = (.inl r, w)) ∨
    (gk_xnw P mi pc = none ∧ ∃ (d' mj : Nat) (as r : List Value), d = d' + 1 ∧ gk_call P mi w st i = some (mj, as, r) ∧ (as.flatMap gk_slots).length ≤ (gk_inf P mj).1 ∧
      ((∃ (v : Option Value) (w1 : gk_Wd), gk_run P n none d' mj 0 (gk_entry as (gk_inf P mj).1) [] w = some (.inl v, w1) ∧ gk_run P n scr d mi (pc + 3) l (v.toList ++ r) w1 = some q) ∨
      ∃ (ci h : Nat) (w1 : gk_Wd), gk_run P n none d' mj 0 (gk_entry as (gk_inf P mj).1) [] w = some (.inr ci, w1) ∧ gk_hnd P mi pc ci = some h ∧ gk_run P n scr d mi h l [.ref w1.length] w1 = some q))) := by
  rw [gk_run] at h
  split at h
  · cases h
  · rename_i i hi
    refine ⟨i, hi, ?_⟩
    split at h
    · rename_i x hx
      exact Or.inl ⟨x, hx, h⟩
    · split at h
      · rename_i ci hci
        split at h
        · rename_i hc
          cases h
          exact Or.inr (Or.inl ⟨ci, hci, hc, rfl⟩)
        · cases h
      · rename_i hxn
        split at h
        · rename_i x hx
          exact Or.inr (Or.inr (Or.inl ⟨hxn, x, hx, h⟩))
        · split at h
          · rename_i r hr
            cases h
            exact Or.inr (Or.inr (Or.inr (Or.inl ⟨hxn, r, hr, rfl⟩)))
          · split at h
            · rename_i d' mj as r hcall
              split at h
              · rename_i hfit
                split at h
                · rename_i v w1 hrun
                  exact Or.inr (Or.inr (Or.inr (Or.inr ⟨hxn, d', mj, as, r, rfl, hcall, hfit, Or.inl ⟨v, w1, hrun, h⟩⟩)))
                · rename_i ci w1 hrun
                  split at h
                  · rename_i hp hh
                    exact Or.inr (Or.inr (Or.inr (Or.inr ⟨hxn, d', mj, as, r, rfl, hcall, hfit, Or.inr ⟨ci, hp, w1, hrun, hh, h⟩⟩)))
                  · cases h
                · cases h
              · cases h
            · cases h
section FW
variable {P : gk_Pg} {scr : Option (List Int32)} {n d mi pc : Nat} {l : gk_Lc} {st : List Value} {w : gk_Wd} {i : Instr}
theorem gk_fw_p {x : gk_Pt} (hd : gk_dec P mi pc = some i) (hp : gk_pure pc l st i = some x) : gk_run P (n + 1) scr d mi pc l st w = gk_run P n scr d mi x.1 x.2.1 x.2.2 w := by
  rw [gk_run, hd]
  simp only [hp]
theorem gk_fw_x {ci : Nat} (hd : gk_dec P mi pc = some i) (hp : gk_pure pc l st i = none) (hx : gk_xnw P mi pc = some ci) (hc : gk_cat st ≤ 8 ∧ 5 ≤ d) : gk_run P (n + 1) scr d mi pc l st w = some (.inr ci, w ++ [.inl (ci, [])]) := by
  rw [gk_run, hd]
  simp only [hp, hx]
  rw [if_pos hc]
theorem gk_fw_h {x : List Value × gk_Wd} (hd : gk_dec P mi pc = some i) (hx : gk_xnw P mi pc = none) (hh : gk_heap P scr mi w st i = some x) : gk_run P (n + 1) scr d mi pc l st w = gk_run P n scr d mi (pc + gk_len i) l x.1 x.2 := by
  rw [gk_run, hd]
  simp only [gk_heap_np hh, hx, hh]
theorem gk_fw_r {r : Option Value} (hd : gk_dec P mi pc = some i) (hx : gk_xnw P mi pc = none) (hr : gk_ret (gk_inf P mi).2 st i = some r) : gk_run P (n + 1) scr d mi pc l st w = some (.inl r, w) := by
  rw [gk_run, hd]
  simp only [gk_ret_np hr, hx, gk_ret_nh hr, hr]
theorem gk_fw_c {mj : Nat} {as r : List Value} {v : Option Value} {w1 : gk_Wd} (hd : gk_dec P mi pc = some i) (hx : gk_xnw P mi pc = none) (hc : gk_call P mi w st i = some (mj, as, r)) (hf : (as.flatMap gk_slots).length ≤ (gk_inf P mj).1) (hr : gk_run P n none d mj 0 (gk_entry as (gk_inf P mj).1) [] w = some (.inl v, w1)) : gk_run P (n + 1) scr (d + 1) mi pc l st w = gk_run P n scr (d + 1) mi (pc + 3) l (v.toList ++ r) w1 := by
  rw [gk_run, hd]
  simp only [gk_call_np hc, hx, gk_call_nh hc, gk_call_nr hc, hc]
  rw [if_pos hf, hr]
theorem gk_fw_t {mj ci h : Nat} {as r : List Value} {w1 : gk_Wd} (hd : gk_dec P mi pc = some i) (hx : gk_xnw P mi pc = none) (hc : gk_call P mi w st i = some (mj, as, r)) (hf : (as.flatMap gk_slots).length ≤ (gk_inf P mj).1) (hr : gk_run P n none d mj 0 (gk_entry as (gk_inf P mj).1) [] w = some (.inr ci, w1)) (hh : gk_hnd P mi pc ci = some h) : gk_run P (n + 1) scr (d + 1) mi pc l st w = gk_run P n scr (d + 1) mi h l [.ref w1.length] w1 := by
  rw [gk_run, hd]
  simp only [gk_call_np hc, hx, gk_call_nh hc, gk_call_nr hc, hc]
  rw [if_pos hf, hr]
  simp only [hh]
end FW
theorem gp_xnw_new : gp_xs.all (fun x => match gp_dec x.1 x.2.1 with
  | some (.new _) => true
  | _ => false) = true := by decide +kernel
theorem gp_xnw_np {mi pc ci : Nat} {i : Instr} (hx : gk_xnw gp_P mi pc = some ci) (hd : gk_dec gp_P mi pc = some i) (l : gk_Lc) (st : List Value) : gk_pure pc l st i = none := by
  have hx : gp_xnw mi pc = some ci := hx
  have hd : gp_dec mi pc = some i := hd
  unfold gp_xnw at hx
  split at hx
  · rename_i q hq
    have hm := List.all_eq_true.mp gp_xnw_new _ (gp_xf_mem _ _ _ _ hq)
    simp only [hd] at hm
    cases i <;> first | rfl | cases hm
  · cases hx
theorem gk_run_up : ∀ (n : Nat) (scr : Option (List Int32)) (d mi pc : Nat) (l : gk_Lc) (st : List Value) (w : gk_Wd) (q : gk_Res × gk_Wd), gk_run gp_P n scr d mi pc l st w = some q → ∀ (n' d' : Nat) (l' : gk_Lc), n ≤ n' → d ≤ d' → gk_le l l' → gk_run gp_P n' scr d' mi pc l' st w = some q
  | 0, scr, d, mi, pc, l, st, w, q, h, _, _, _, _, _, _ => by simp [gk_run] at h
  | n + 1, scr, d, mi, pc, l, st, w, q, h, 0, d', l', hn, hdd, hl => by omega
  | n + 1, scr, d, mi, pc, l, st, w, q, h, n' + 1, d', l', hn, hdd, hl => by
    have hn : n ≤ n' := by omega
    obtain ⟨i, hd, h | h | h | h | h⟩ := gk_run_inv2 h
    · obtain ⟨x, h1, h2⟩ := h
      obtain ⟨l1, h3, h4⟩ := gk_pure_le hl h1
      rw [gk_fw_p hd h4]
      exact gk_run_up n _ _ _ _ _ _ _ _ h2 _ _ _ hn hdd h3
    · obtain ⟨ci, h1, h2, rfl⟩ := h
      exact gk_fw_x hd (gp_xnw_np h1 hd _ _) h1 ⟨h2.1, by omega⟩
    · obtain ⟨hx, x, h1, h2⟩ := h
      rw [gk_fw_h hd hx h1]
      exact gk_run_up n _ _ _ _ _ _ _ _ h2 _ _ _ hn hdd hl
    · obtain ⟨hx, r, h1, rfl⟩ := h
      exact gk_fw_r hd hx h1
    · obtain ⟨hx, d1, mj, as, r, rfl, hc, hf, h⟩ := h
      obtain ⟨d2, rfl⟩ : ∃ d2, d' = d2 + 1 := ⟨d' - 1, by omega⟩
      rcases h with ⟨v, w1, h1, h2⟩ | ⟨ci, hp, w1, h1, h2, h3⟩
      · rw [gk_fw_c hd hx hc hf (gk_run_up n _ _ _ _ _ _ _ _ h1 n' d2 _ hn (by omega) (gk_le_refl _))]
        exact gk_run_up n _ _ _ _ _ _ _ _ h2 _ _ _ hn hdd hl
      · rw [gk_fw_t hd hx hc hf (gk_run_up n _ _ _ _ _ _ _ _ h1 n' d2 _ hn (by omega) (gk_le_refl _)) h2]
        exact gk_run_up n _ _ _ _ _ _ _ _ h3 _ _ _ hn hdd hl
