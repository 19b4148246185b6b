/-! part 15: the printed tables are true of the program -/
def gp_LW : List Cond := lw_tbl.filter goodWord
theorem gp_LW_stab : ∀ w ∈ gp_LW, gk_stab w := fun w hw => (good_of_word (List.mem_filter.mp hw).2).elim Or.inl (fun h => Or.inr (Or.inl h))
def gp_is (n : Nat) (w : Cond) : Bool := match lw_tbl[n]? with
  | some v => decide (v = w) && goodWord v
  | none => false
theorem gp_is_in {n : Nat} {w : Cond} (h : gp_is n w = true) : w ∈ gp_LW := by
  unfold gp_is at h
  split at h
  · rename_i v hv
    simp only [Bool.and_eq_true, decide_eq_true_eq] at h
    obtain ⟨rfl, h2⟩ := h
    exact List.mem_filter.mpr ⟨List.mem_of_getElem? hv, h2⟩
  · cases h
theorem gp_all {α : Type} {ls : List (List α)} {f : Nat → α → Bool} (h : ls.zipIdx.all (fun x => x.1.all (f x.2)) = true) (c : Nat) (q : α) (hq : q ∈ ls.getD c []) : f c q = true := by
  rw [List.getD_eq_getElem?_getD] at hq
  cases hl : ls[c]? with
  | none => rw [hl] at hq; cases hq
  | some l =>
    rw [hl] at hq
    have h1 := List.all_eq_true.mp h (l, c) (List.mem_zipIdx_iff_getElem?.mpr hl)
    exact List.all_eq_true.mp h1 q hq
theorem gp_allx {α : Type} {ls : List α} {f : Nat → α → Bool} (h : ls.zipIdx.all (fun x => f x.2 x.1) = true) (c : Nat) (q : α) (hq : ls[c]? = some q) : f c q = true :=
  List.all_eq_true.mp h (q, c) (List.mem_zipIdx_iff_getElem?.mpr hq)
theorem gp_fnd_mem {α : Type} : ∀ (l : List (Nat × α)) (k : Nat) (x : α), gp_fnd l k = some x → (k, x) ∈ l
  | [], k, x, h => by simp [gp_fnd] at h
  | q :: r, k, x, h => by
    unfold gp_fnd at h
    cases hb : Nat.beq q.1 k with
    | true =>
      rw [hb] at h
      have e1 : q.1 = k := Nat.eq_of_beq_eq_true hb
      have e2 : q.2 = x := Option.some.inj h
      subst e1; subst e2
      exact List.mem_cons_self
    | false =>
      rw [hb] at h
      exact List.mem_cons_of_mem _ (gp_fnd_mem r k x h)
def gp_okCl (ci : Nat) (r : vw_C) : Bool := (List.range r.2.2).all (fun k => gp_is ((gp_lp.getD ci []).getD k 0) (u_lay r.1 r.2.1 k) && decide (parseFieldDescriptor (r.2.1 k).2.2.1 = some (gp_fty ci k))) && (List.range r.2.2).all (fun a => (List.range r.2.2).all (fun b => decide (a = b) || decide ((r.2.1 a).2.1 ≠ (r.2.1 b).2.1)))
theorem gp_okCls : gp_cl.zipIdx.all (fun x => gp_okCl x.2 x.1) = true := by decide +kernel
theorem gp_Cl : gk_Cl gp_cl gp_LW (gk_fty gp_P) := by
  intro ci C T N hc
  have h := gp_allx gp_okCls ci (C, T, N) hc
  unfold gp_okCl at h
  simp only [Bool.and_eq_true] at h
  obtain ⟨h1, h2⟩ := h
  refine ⟨fun w hw => ?_, fun k hk => ?_, fun a ha b hb hab => ?_⟩
  · obtain ⟨k, hk, rfl⟩ := List.mem_map.mp hw
    have := List.all_eq_true.mp h1 k hk
    simp only [Bool.and_eq_true] at this
    exact gp_is_in this.1
  · have := List.all_eq_true.mp h1 k (List.mem_range.mpr hk)
    simp only [Bool.and_eq_true, decide_eq_true_eq] at this
    exact this.2
  · have := List.all_eq_true.mp (List.all_eq_true.mp h2 a (List.mem_range.mpr ha)) b (List.mem_range.mpr hb)
    simp only [Bool.or_eq_true, decide_eq_true_eq] at this
    exact this.resolve_left hab
def gp_okF (c : Nat) (q : Nat × Nat × Nat × Nat) : Bool := match gp_cl[q.2.1]? with
  | some r => decide (q.2.2.1 < r.2.2) && gp_is q.2.2.2 (.fieldLink (gp_cn c) q.1 (r.2.1 q.2.2.1).1 (r.2.1 q.2.2.1).2.1 (r.2.1 q.2.2.1).2.2.1)
  | none => false
theorem gp_okFs : gp_fls.zipIdx.all (fun x => x.1.all (gp_okF x.2)) = true := by decide +kernel
theorem gp_TF : gk_TF gp_P gp_yn gp_cl gp_LW := by
  intro mi idx ci k h
  have h : gp_fld mi idx = some (ci, k) := h
  unfold gp_fld at h
  split at h
  · rename_i q hq
    cases h
    have h2 := gp_all gp_okFs (gp_own mi) (idx, q) (gp_fnd_mem _ _ _ hq)
    unfold gp_okF at h2
    dsimp only at h2
    split at h2
    · rename_i r hr
      simp only [Bool.and_eq_true, decide_eq_true_eq] at h2
      exact ⟨r.1, r.2.1, r.2.2, hr, h2.1, Or.inl (gp_is_in h2.2)⟩
    · cases h2
  · cases h
def gp_okP (c : Nat) (q : Nat × Nat × Nat × Nat × Bool) : Bool := match gp_cl[q.2.1]? with
  | some r => decide (q.2.2.1 < r.2.2) && decide ((r.2.1 q.2.2.1).2.2.2 = q.2.2.2.2) && decide (q.2.2.2.2 = true → (r.2.1 q.2.2.1).1 = gp_cn c) && gp_is q.2.2.2.1 (.fieldLink (gp_cn c) q.1 (r.2.1 q.2.2.1).1 (r.2.1 q.2.2.1).2.1 (r.2.1 q.2.2.1).2.2.1)
  | none => false
theorem gp_okPs : gp_pls.zipIdx.all (fun x => x.1.all (gp_okP x.2)) = true := by decide +kernel
theorem gp_TP : gk_TP gp_P gp_yn gp_cl gp_LW := by
  intro mi idx ci k h
  have h : gp_pfl mi idx = some (ci, k) := h
  unfold gp_pfl at h
  split at h
  · rename_i q hq
    have h2 := gp_all gp_okPs (gp_own mi) (idx, q) (gp_fnd_mem _ _ _ hq)
    unfold gp_okP at h2
    dsimp only at h2
    split at h2
    · rename_i r hr
      simp only [Bool.and_eq_true, decide_eq_true_eq] at h2
      obtain ⟨⟨⟨g1, g2⟩, g3⟩, g4⟩ := h2
      cases hb : q.2.2.2 with
      | true =>
        rw [hb] at h
        cases hn : decide (gp_nm mi = "<init>") with
        | true =>
          rw [hn] at h
          cases h
          exact ⟨r.1, r.2.1, r.2.2, hr, g1, Or.inr ⟨g2.trans hb, of_decide_eq_true hn, g3 hb, gp_is_in g4⟩⟩
        | false => rw [hn] at h; cases h
      | false =>
        rw [hb] at h
        cases h
        exact ⟨r.1, r.2.1, r.2.2, hr, g1, Or.inl ⟨g2.trans hb, Or.inl (gp_is_in g4)⟩⟩
    · cases h2
  · cases h
def gp_noref (v : Value) : Bool := match v with
  | .ref _ => false
  | _ => true
theorem gp_noref_v {v : Value} (h : gp_noref v = true) (ad : Nat → Nat) : gk_v ad v = v := by cases v <;> first | rfl | cases h
def gp_okN (c : Nat) (q : Nat × Nat × Nat) : Bool := match gp_cl[q.2.1]? with
  | some r => gp_is q.2.2 (.classLink (gp_cn c) q.1 r.1) && gp_is (gp_ip.getD q.2.1 0) (.instantiable r.1 r.2.2) && gp_is (gp_iz.getD q.2.1 0) (.initialized r.1) && decide (gp_nsl q.2.1 = r.2.2) && (List.range r.2.2).all (fun j => decide (defaultValue (gp_fty q.2.1 j) = vp_V (gp_dfl q.2.1) j)) && (gp_dfl q.2.1).all gp_noref
  | none => false
theorem gp_okNs : gp_nls.zipIdx.all (fun x => x.1.all (gp_okN x.2)) = true := by decide +kernel
theorem gp_TN : gk_TN gp_P gp_yn gp_cl gp_LW := by
  intro mi idx ci h
  have h : gp_nwc mi idx = some ci := h
  unfold gp_nwc at h
  split at h
  · rename_i q hq
    cases h
    have h2 := gp_all gp_okNs (gp_own mi) (idx, q) (gp_fnd_mem _ _ _ hq)
    unfold gp_okN at h2
    dsimp only at h2
    split at h2
    · rename_i r hr
      simp only [Bool.and_eq_true, decide_eq_true_eq] at h2
      obtain ⟨⟨⟨⟨⟨g1, g2⟩, g3⟩, g4⟩, g5⟩, g6⟩ := h2
      refine ⟨r.1, r.2.1, r.2.2, hr, gp_is_in g1, gp_is_in g2, gp_is_in g3, g4, fun j hj => ?_, fun ad => ?_⟩
      · have := List.all_eq_true.mp g5 j (List.mem_range.mpr hj)
        exact of_decide_eq_true this
      · show (gp_dfl q.1).map (gk_v ad) = gp_dfl q.1
        refine (List.map_congr_left fun v hv => gp_noref_v (List.all_eq_true.mp g6 v hv) ad).trans (List.map_id' _)
    · cases h2
  · cases h
def gp_okC (c : Nat) (q : Nat × Value × Nat) : Bool := match q.2.1 with
  | .int x => gp_is q.2.2 (.constant (gp_cn c) q.1 x)
  | .long x => gp_is q.2.2 (.constantLong (gp_cn c) q.1 x)
  | _ => false
theorem gp_okCs : gp_kls.zipIdx.all (fun x => x.1.all (gp_okC x.2)) = true := by decide +kernel
theorem gp_TC : gk_TC gp_P gp_yn gp_LW := by
  intro mi idx v h
  have h : gp_cst mi idx = some v := h
  unfold gp_cst at h
  split at h
  · rename_i q hq
    cases h
    have h2 := gp_all gp_okCs (gp_own mi) (idx, q) (gp_fnd_mem _ _ _ hq)
    unfold gp_okC at h2
    dsimp only at h2
    split at h2
    · rename_i x hx
      exact Or.inl ⟨x, hx, gp_is_in h2⟩
    · rename_i x hx
      exact Or.inr ⟨x, hx, gp_is_in h2⟩
    · cases h2
  · cases h
